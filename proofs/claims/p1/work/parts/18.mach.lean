theorem co_Words_size : (Jvm.Cond.code ({ cls := "ColonMachine$Words", name := "size", desc := "()I" } : Jvm.MethodName) prog_11_method_2_code (1 : Nat) (Option.some Jvm.ClassFile.FieldType.int)) ∈ TB := tbI2 _ (List.mem_of_getElem? (i := 20) rfl) rfl
theorem co_Compiler_isCompiling : (Jvm.Cond.code ({ cls := "ColonMachine$Compiler", name := "isCompiling", desc := "()Z" } : Jvm.MethodName) prog_4_method_2_code (1 : Nat) (Option.some Jvm.ClassFile.FieldType.boolean)) ∈ TB := tbI2 _ (List.mem_of_getElem? (i := 36) rfl) rfl
theorem co_Mach_code : (Jvm.Cond.code ({ cls := "ColonMachine", name := "code", desc := "()I" } : Jvm.MethodName) prog_1_method_4_code (1 : Nat) (Option.some Jvm.ClassFile.FieldType.int)) ∈ TB := tbI2 _ (List.mem_of_getElem? (i := 4) rfl) rfl
theorem co_Mach_out : (Jvm.Cond.code ({ cls := "ColonMachine", name := "out", desc := "()I" } : Jvm.MethodName) prog_1_method_9_code (1 : Nat) (Option.some Jvm.ClassFile.FieldType.int)) ∈ TB := tbI2 _ (List.mem_of_getElem? (i := 40) rfl) rfl
theorem ml_Mach_158 : (Jvm.Cond.methodLink "ColonMachine" (158 : Nat) ({ cls := "ColonMachine$Out", name := "size", desc := "()I" } : Jvm.MethodName)) ∈ TB := tbI2 _ (List.mem_of_getElem? (i := 41) rfl) rfl
theorem im_Out_size : (Jvm.Cond.instanceMethod ({ cls := "ColonMachine$Out", name := "size", desc := "()I" } : Jvm.MethodName)) ∈ TB := tbI2 _ (List.mem_of_getElem? (i := 42) rfl) rfl
theorem se_Out_size : (Jvm.Cond.selects "ColonMachine$Out" ({ cls := "ColonMachine$Out", name := "size", desc := "()I" } : Jvm.MethodName) ({ cls := "ColonMachine$Out", name := "size", desc := "()I" } : Jvm.MethodName)) ∈ TB := tbI2 _ (List.mem_of_getElem? (i := 43) rfl) rfl
theorem co_Mach_word : (Jvm.Cond.code ({ cls := "ColonMachine", name := "word", desc := "(I)J" } : Jvm.MethodName) prog_1_method_10_code (2 : Nat) (Option.some Jvm.ClassFile.FieldType.long)) ∈ TB := tbI2 _ (List.mem_of_getElem? (i := 48) rfl) rfl
theorem ml_Mach_159 : (Jvm.Cond.methodLink "ColonMachine" (159 : Nat) ({ cls := "ColonMachine$Out", name := "eightBytes", desc := "(I)J" } : Jvm.MethodName)) ∈ TB := tbI2 _ (List.mem_of_getElem? (i := 49) rfl) rfl
theorem im_Out_eightBytes : (Jvm.Cond.instanceMethod ({ cls := "ColonMachine$Out", name := "eightBytes", desc := "(I)J" } : Jvm.MethodName)) ∈ TB := tbI2 _ (List.mem_of_getElem? (i := 50) rfl) rfl
theorem se_Out_eightBytes : (Jvm.Cond.selects "ColonMachine$Out" ({ cls := "ColonMachine$Out", name := "eightBytes", desc := "(I)J" } : Jvm.MethodName) ({ cls := "ColonMachine$Out", name := "eightBytes", desc := "(I)J" } : Jvm.MethodName)) ∈ TB := tbI2 _ (List.mem_of_getElem? (i := 51) rfl) rfl
theorem co_Mach_clear : (Jvm.Cond.code ({ cls := "ColonMachine", name := "clear", desc := "()I" } : Jvm.MethodName) prog_1_method_11_code (2 : Nat) (Option.some Jvm.ClassFile.FieldType.int)) ∈ TB := tbI2 _ (List.mem_of_getElem? (i := 56) rfl) rfl
theorem ml_Mach_163 : (Jvm.Cond.methodLink "ColonMachine" (163 : Nat) ({ cls := "ColonMachine$Out", name := "empty", desc := "()V" } : Jvm.MethodName)) ∈ TB := tbI2 _ (List.mem_of_getElem? (i := 57) rfl) rfl
theorem im_Out_empty : (Jvm.Cond.instanceMethod ({ cls := "ColonMachine$Out", name := "empty", desc := "()V" } : Jvm.MethodName)) ∈ TB := tbI2 _ (List.mem_of_getElem? (i := 58) rfl) rfl
theorem se_Out_empty : (Jvm.Cond.selects "ColonMachine$Out" ({ cls := "ColonMachine$Out", name := "empty", desc := "()V" } : Jvm.MethodName) ({ cls := "ColonMachine$Out", name := "empty", desc := "()V" } : Jvm.MethodName)) ∈ TB := tbI2 _ (List.mem_of_getElem? (i := 59) rfl) rfl
theorem co_Mach_nothingIsLeft : (Jvm.Cond.code ({ cls := "ColonMachine", name := "nothingIsLeft", desc := "()Z" } : Jvm.MethodName) prog_1_method_12_code (1 : Nat) (Option.some Jvm.ClassFile.FieldType.boolean)) ∈ TB := tbI2 _ (List.mem_of_getElem? (i := 186) rfl) rfl
theorem ml_Mach_108 : (Jvm.Cond.methodLink "ColonMachine" (108 : Nat) ({ cls := "ColonMachine$Calls", name := "isEmpty", desc := "()Z" } : Jvm.MethodName)) ∈ TB := tbI2 _ (List.mem_of_getElem? (i := 187) rfl) rfl
theorem im_Calls_isEmpty : (Jvm.Cond.instanceMethod ({ cls := "ColonMachine$Calls", name := "isEmpty", desc := "()Z" } : Jvm.MethodName)) ∈ TB := tbI2 _ (List.mem_of_getElem? (i := 188) rfl) rfl
theorem se_Calls_isEmpty : (Jvm.Cond.selects "ColonMachine$Calls" ({ cls := "ColonMachine$Calls", name := "isEmpty", desc := "()Z" } : Jvm.MethodName) ({ cls := "ColonMachine$Calls", name := "isEmpty", desc := "()Z" } : Jvm.MethodName)) ∈ TB := tbI2 _ (List.mem_of_getElem? (i := 189) rfl) rfl
theorem ml_Mach_166 : (Jvm.Cond.methodLink "ColonMachine" (166 : Nat) ({ cls := "ColonMachine$Text", name := "hasMore", desc := "()Z" } : Jvm.MethodName)) ∈ TB := tbI2 _ (List.mem_of_getElem? (i := 191) rfl) rfl
theorem co_Mach_told : (Jvm.Cond.code ({ cls := "ColonMachine", name := "told", desc := "(I)I" } : Jvm.MethodName) prog_1_method_8_code (2 : Nat) (Option.some Jvm.ClassFile.FieldType.int)) ∈ TB := tbI2 _ (List.mem_of_getElem? (i := 8) rfl) rfl
theorem ml_Mach_120 : (Jvm.Cond.methodLink "ColonMachine" (120 : Nat) ({ cls := "ColonMachine$Cells", name := "size", desc := "()I" } : Jvm.MethodName)) ∈ TB := tbI2 _ (List.mem_of_getElem? (i := 9) rfl) rfl
theorem im_Cells_size : (Jvm.Cond.instanceMethod ({ cls := "ColonMachine$Cells", name := "size", desc := "()I" } : Jvm.MethodName)) ∈ TB := tbI2 _ (List.mem_of_getElem? (i := 10) rfl) rfl
theorem se_Cells_size : (Jvm.Cond.selects "ColonMachine$Cells" ({ cls := "ColonMachine$Cells", name := "size", desc := "()I" } : Jvm.MethodName) ({ cls := "ColonMachine$Cells", name := "size", desc := "()I" } : Jvm.MethodName)) ∈ TB := tbI2 _ (List.mem_of_getElem? (i := 11) rfl) rfl
theorem ml_Mach_144 : (Jvm.Cond.methodLink "ColonMachine" (144 : Nat) ({ cls := "ColonMachine$Calls", name := "size", desc := "()I" } : Jvm.MethodName)) ∈ TB := tbI2 _ (List.mem_of_getElem? (i := 13) rfl) rfl
theorem im_Calls_size : (Jvm.Cond.instanceMethod ({ cls := "ColonMachine$Calls", name := "size", desc := "()I" } : Jvm.MethodName)) ∈ TB := tbI2 _ (List.mem_of_getElem? (i := 14) rfl) rfl
theorem se_Calls_size : (Jvm.Cond.selects "ColonMachine$Calls" ({ cls := "ColonMachine$Calls", name := "size", desc := "()I" } : Jvm.MethodName) ({ cls := "ColonMachine$Calls", name := "size", desc := "()I" } : Jvm.MethodName)) ∈ TB := tbI2 _ (List.mem_of_getElem? (i := 15) rfl) rfl
theorem ml_Mach_145 : (Jvm.Cond.methodLink "ColonMachine" (145 : Nat) ({ cls := "ColonMachine$Words", name := "size", desc := "()I" } : Jvm.MethodName)) ∈ TB := tbI2 _ (List.mem_of_getElem? (i := 17) rfl) rfl
theorem im_Words_size : (Jvm.Cond.instanceMethod ({ cls := "ColonMachine$Words", name := "size", desc := "()I" } : Jvm.MethodName)) ∈ TB := tbI2 _ (List.mem_of_getElem? (i := 18) rfl) rfl
theorem se_Words_size : (Jvm.Cond.selects "ColonMachine$Words" ({ cls := "ColonMachine$Words", name := "size", desc := "()I" } : Jvm.MethodName) ({ cls := "ColonMachine$Words", name := "size", desc := "()I" } : Jvm.MethodName)) ∈ TB := tbI2 _ (List.mem_of_getElem? (i := 19) rfl) rfl
theorem ml_Mach_146 : (Jvm.Cond.methodLink "ColonMachine" (146 : Nat) ({ cls := "ColonMachine$Memory", name := "here", desc := "()I" } : Jvm.MethodName)) ∈ TB := tbI2 _ (List.mem_of_getElem? (i := 21) rfl) rfl
theorem im_Memory_here : (Jvm.Cond.instanceMethod ({ cls := "ColonMachine$Memory", name := "here", desc := "()I" } : Jvm.MethodName)) ∈ TB := tbI2 _ (List.mem_of_getElem? (i := 22) rfl) rfl
theorem se_Memory_here : (Jvm.Cond.selects "ColonMachine$Memory" ({ cls := "ColonMachine$Memory", name := "here", desc := "()I" } : Jvm.MethodName) ({ cls := "ColonMachine$Memory", name := "here", desc := "()I" } : Jvm.MethodName)) ∈ TB := tbI2 _ (List.mem_of_getElem? (i := 23) rfl) rfl
theorem ml_Mach_149 : (Jvm.Cond.methodLink "ColonMachine" (149 : Nat) ({ cls := "ColonMachine$Memory", name := "blocks", desc := "()I" } : Jvm.MethodName)) ∈ TB := tbI2 _ (List.mem_of_getElem? (i := 25) rfl) rfl
theorem im_Memory_blocks : (Jvm.Cond.instanceMethod ({ cls := "ColonMachine$Memory", name := "blocks", desc := "()I" } : Jvm.MethodName)) ∈ TB := tbI2 _ (List.mem_of_getElem? (i := 26) rfl) rfl
theorem se_Memory_blocks : (Jvm.Cond.selects "ColonMachine$Memory" ({ cls := "ColonMachine$Memory", name := "blocks", desc := "()I" } : Jvm.MethodName) ({ cls := "ColonMachine$Memory", name := "blocks", desc := "()I" } : Jvm.MethodName)) ∈ TB := tbI2 _ (List.mem_of_getElem? (i := 27) rfl) rfl
theorem ml_Mach_152 : (Jvm.Cond.methodLink "ColonMachine" (152 : Nat) ({ cls := "ColonMachine$Memory", name := "cellsInBlocks", desc := "()I" } : Jvm.MethodName)) ∈ TB := tbI2 _ (List.mem_of_getElem? (i := 29) rfl) rfl
theorem im_Memory_cellsInBlocks : (Jvm.Cond.instanceMethod ({ cls := "ColonMachine$Memory", name := "cellsInBlocks", desc := "()I" } : Jvm.MethodName)) ∈ TB := tbI2 _ (List.mem_of_getElem? (i := 30) rfl) rfl
theorem se_Memory_cellsInBlocks : (Jvm.Cond.selects "ColonMachine$Memory" ({ cls := "ColonMachine$Memory", name := "cellsInBlocks", desc := "()I" } : Jvm.MethodName) ({ cls := "ColonMachine$Memory", name := "cellsInBlocks", desc := "()I" } : Jvm.MethodName)) ∈ TB := tbI2 _ (List.mem_of_getElem? (i := 31) rfl) rfl
theorem ml_Mach_155 : (Jvm.Cond.methodLink "ColonMachine" (155 : Nat) ({ cls := "ColonMachine$Compiler", name := "isCompiling", desc := "()Z" } : Jvm.MethodName)) ∈ TB := tbI2 _ (List.mem_of_getElem? (i := 33) rfl) rfl
theorem im_Compiler_isCompiling : (Jvm.Cond.instanceMethod ({ cls := "ColonMachine$Compiler", name := "isCompiling", desc := "()Z" } : Jvm.MethodName)) ∈ TB := tbI2 _ (List.mem_of_getElem? (i := 34) rfl) rfl
theorem se_Compiler_isCompiling : (Jvm.Cond.selects "ColonMachine$Compiler" ({ cls := "ColonMachine$Compiler", name := "isCompiling", desc := "()Z" } : Jvm.MethodName) ({ cls := "ColonMachine$Compiler", name := "isCompiling", desc := "()Z" } : Jvm.MethodName)) ∈ TB := tbI2 _ (List.mem_of_getElem? (i := 35) rfl) rfl
abbrev b_Words_size : ByteArray := prog_11_method_2_code
def y_Words_size : MethodName := { cls := "ColonMachine$Words", name := "size", desc := "()I" }
abbrev w_Words_size : List Cond := .code y_Words_size b_Words_size 1 (Option.some Jvm.ClassFile.FieldType.int) :: TB
abbrev b_Compiler_isCompiling : ByteArray := prog_4_method_2_code
def y_Compiler_isCompiling : MethodName := { cls := "ColonMachine$Compiler", name := "isCompiling", desc := "()Z" }
abbrev w_Compiler_isCompiling : List Cond := .code y_Compiler_isCompiling b_Compiler_isCompiling 1 (Option.some Jvm.ClassFile.FieldType.boolean) :: TB
abbrev b_Mach_code : ByteArray := prog_1_method_4_code
def y_Mach_code : MethodName := { cls := "ColonMachine", name := "code", desc := "()I" }
abbrev w_Mach_code : List Cond := .code y_Mach_code b_Mach_code 1 (Option.some Jvm.ClassFile.FieldType.int) :: TB
abbrev b_Mach_out : ByteArray := prog_1_method_9_code
def y_Mach_out : MethodName := { cls := "ColonMachine", name := "out", desc := "()I" }
abbrev w_Mach_out : List Cond := .code y_Mach_out b_Mach_out 1 (Option.some Jvm.ClassFile.FieldType.int) :: TB
theorem v_Out_size : y_Out_size.cls = "ColonMachine$Out" ∧ y_Out_size.cls ≠ "java/lang/invoke/MethodHandle" ∧ y_Out_size.cls ≠ "java/lang/invoke/VarHandle" ∧ (parseMethodDescriptor y_Out_size.desc).map (fun d => d.parameters.length) = some 0 := by decide +kernel
abbrev b_Mach_word : ByteArray := prog_1_method_10_code
def y_Mach_word : MethodName := { cls := "ColonMachine", name := "word", desc := "(I)J" }
abbrev w_Mach_word : List Cond := .code y_Mach_word b_Mach_word 2 (Option.some Jvm.ClassFile.FieldType.long) :: TB
theorem v_Out_eightBytes : y_Out_eightBytes.cls = "ColonMachine$Out" ∧ y_Out_eightBytes.cls ≠ "java/lang/invoke/MethodHandle" ∧ y_Out_eightBytes.cls ≠ "java/lang/invoke/VarHandle" ∧ (parseMethodDescriptor y_Out_eightBytes.desc).map (fun d => d.parameters.length) = some 1 := by decide +kernel
abbrev b_Mach_clear : ByteArray := prog_1_method_11_code
def y_Mach_clear : MethodName := { cls := "ColonMachine", name := "clear", desc := "()I" }
abbrev w_Mach_clear : List Cond := .code y_Mach_clear b_Mach_clear 2 (Option.some Jvm.ClassFile.FieldType.int) :: TB
theorem v_Out_empty : y_Out_empty.cls = "ColonMachine$Out" ∧ y_Out_empty.cls ≠ "java/lang/invoke/MethodHandle" ∧ y_Out_empty.cls ≠ "java/lang/invoke/VarHandle" ∧ (parseMethodDescriptor y_Out_empty.desc).map (fun d => d.parameters.length) = some 0 := by decide +kernel
abbrev b_Mach_nothingIsLeft : ByteArray := prog_1_method_12_code
def y_Mach_nothingIsLeft : MethodName := { cls := "ColonMachine", name := "nothingIsLeft", desc := "()Z" }
abbrev w_Mach_nothingIsLeft : List Cond := .code y_Mach_nothingIsLeft b_Mach_nothingIsLeft 1 (Option.some Jvm.ClassFile.FieldType.boolean) :: TB
theorem v_Calls_isEmpty : y_Calls_isEmpty.cls = "ColonMachine$Calls" ∧ y_Calls_isEmpty.cls ≠ "java/lang/invoke/MethodHandle" ∧ y_Calls_isEmpty.cls ≠ "java/lang/invoke/VarHandle" ∧ (parseMethodDescriptor y_Calls_isEmpty.desc).map (fun d => d.parameters.length) = some 0 := by decide +kernel
abbrev b_Mach_told : ByteArray := prog_1_method_8_code
def y_Mach_told : MethodName := { cls := "ColonMachine", name := "told", desc := "(I)I" }
abbrev w_Mach_told : List Cond := .code y_Mach_told b_Mach_told 2 (Option.some Jvm.ClassFile.FieldType.int) :: TB
theorem v_Cells_size : y_Cells_size.cls = "ColonMachine$Cells" ∧ y_Cells_size.cls ≠ "java/lang/invoke/MethodHandle" ∧ y_Cells_size.cls ≠ "java/lang/invoke/VarHandle" ∧ (parseMethodDescriptor y_Cells_size.desc).map (fun d => d.parameters.length) = some 0 := by decide +kernel
theorem v_Calls_size : y_Calls_size.cls = "ColonMachine$Calls" ∧ y_Calls_size.cls ≠ "java/lang/invoke/MethodHandle" ∧ y_Calls_size.cls ≠ "java/lang/invoke/VarHandle" ∧ (parseMethodDescriptor y_Calls_size.desc).map (fun d => d.parameters.length) = some 0 := by decide +kernel
theorem v_Words_size : y_Words_size.cls = "ColonMachine$Words" ∧ y_Words_size.cls ≠ "java/lang/invoke/MethodHandle" ∧ y_Words_size.cls ≠ "java/lang/invoke/VarHandle" ∧ (parseMethodDescriptor y_Words_size.desc).map (fun d => d.parameters.length) = some 0 := by decide +kernel
theorem v_Memory_here : y_Memory_here.cls = "ColonMachine$Memory" ∧ y_Memory_here.cls ≠ "java/lang/invoke/MethodHandle" ∧ y_Memory_here.cls ≠ "java/lang/invoke/VarHandle" ∧ (parseMethodDescriptor y_Memory_here.desc).map (fun d => d.parameters.length) = some 0 := by decide +kernel
theorem v_Memory_blocks : y_Memory_blocks.cls = "ColonMachine$Memory" ∧ y_Memory_blocks.cls ≠ "java/lang/invoke/MethodHandle" ∧ y_Memory_blocks.cls ≠ "java/lang/invoke/VarHandle" ∧ (parseMethodDescriptor y_Memory_blocks.desc).map (fun d => d.parameters.length) = some 0 := by decide +kernel
theorem v_Memory_cellsInBlocks : y_Memory_cellsInBlocks.cls = "ColonMachine$Memory" ∧ y_Memory_cellsInBlocks.cls ≠ "java/lang/invoke/MethodHandle" ∧ y_Memory_cellsInBlocks.cls ≠ "java/lang/invoke/VarHandle" ∧ (parseMethodDescriptor y_Memory_cellsInBlocks.desc).map (fun d => d.parameters.length) = some 0 := by decide +kernel
theorem v_Compiler_isCompiling : y_Compiler_isCompiling.cls = "ColonMachine$Compiler" ∧ y_Compiler_isCompiling.cls ≠ "java/lang/invoke/MethodHandle" ∧ y_Compiler_isCompiling.cls ≠ "java/lang/invoke/VarHandle" ∧ (parseMethodDescriptor y_Compiler_isCompiling.desc).map (fun d => d.parameters.length) = some 0 := by decide +kernel
theorem d_Words_size_0 : decode b_Words_size 0 = .ok (.aload_n 0, 1) := by decide +kernel
theorem d_Words_size_1 : decode b_Words_size 1 = .ok (.getfield 17, 3) := by decide +kernel
theorem d_Words_size_4 : decode b_Words_size 4 = .ok (.ireturn, 1) := by decide +kernel
theorem d_Compiler_isCompiling_0 : decode b_Compiler_isCompiling 0 = .ok (.aload_n 0, 1) := by decide +kernel
theorem d_Compiler_isCompiling_1 : decode b_Compiler_isCompiling 1 = .ok (.getfield 21, 3) := by decide +kernel
theorem d_Compiler_isCompiling_4 : decode b_Compiler_isCompiling 4 = .ok (.ireturn, 1) := by decide +kernel
theorem d_Mach_code_0 : decode b_Mach_code 0 = .ok (.aload_n 0, 1) := by decide +kernel
theorem d_Mach_code_1 : decode b_Mach_code 1 = .ok (.getfield 74, 3) := by decide +kernel
theorem d_Mach_code_4 : decode b_Mach_code 4 = .ok (.ireturn, 1) := by decide +kernel
theorem d_Mach_out_0 : decode b_Mach_out 0 = .ok (.aload_n 0, 1) := by decide +kernel
theorem d_Mach_out_1 : decode b_Mach_out 1 = .ok (.getfield 38, 3) := by decide +kernel
theorem d_Mach_out_4 : decode b_Mach_out 4 = .ok (.invokevirtual 158, 3) := by decide +kernel
theorem d_Mach_out_7 : decode b_Mach_out 7 = .ok (.ireturn, 1) := by decide +kernel
theorem d_Mach_word_0 : decode b_Mach_word 0 = .ok (.aload_n 0, 1) := by decide +kernel
theorem d_Mach_word_1 : decode b_Mach_word 1 = .ok (.getfield 38, 3) := by decide +kernel
theorem d_Mach_word_4 : decode b_Mach_word 4 = .ok (.iload_n 1, 1) := by decide +kernel
theorem d_Mach_word_5 : decode b_Mach_word 5 = .ok (.invokevirtual 159, 3) := by decide +kernel
theorem d_Mach_word_8 : decode b_Mach_word 8 = .ok (.lreturn, 1) := by decide +kernel
theorem d_Mach_clear_0 : decode b_Mach_clear 0 = .ok (.aload_n 0, 1) := by decide +kernel
theorem d_Mach_clear_1 : decode b_Mach_clear 1 = .ok (.getfield 38, 3) := by decide +kernel
theorem d_Mach_clear_4 : decode b_Mach_clear 4 = .ok (.invokevirtual 158, 3) := by decide +kernel
theorem d_Mach_clear_7 : decode b_Mach_clear 7 = .ok (.istore_n 1, 1) := by decide +kernel
theorem d_Mach_clear_8 : decode b_Mach_clear 8 = .ok (.aload_n 0, 1) := by decide +kernel
theorem d_Mach_clear_9 : decode b_Mach_clear 9 = .ok (.getfield 38, 3) := by decide +kernel
theorem d_Mach_clear_12 : decode b_Mach_clear 12 = .ok (.invokevirtual 163, 3) := by decide +kernel
theorem d_Mach_clear_15 : decode b_Mach_clear 15 = .ok (.iload_n 1, 1) := by decide +kernel
theorem d_Mach_clear_16 : decode b_Mach_clear 16 = .ok (.ireturn, 1) := by decide +kernel
theorem d_Mach_nothingIsLeft_0 : decode b_Mach_nothingIsLeft 0 = .ok (.aload_n 0, 1) := by decide +kernel
theorem d_Mach_nothingIsLeft_1 : decode b_Mach_nothingIsLeft 1 = .ok (.getfield 24, 3) := by decide +kernel
theorem d_Mach_nothingIsLeft_4 : decode b_Mach_nothingIsLeft 4 = .ok (.invokevirtual 108, 3) := by decide +kernel
theorem d_Mach_nothingIsLeft_7 : decode b_Mach_nothingIsLeft 7 = .ok (.ifCond .eq 17, 3) := by decide +kernel
theorem d_Mach_nothingIsLeft_24 : decode b_Mach_nothingIsLeft 24 = .ok (.iconst 0, 1) := by decide +kernel
theorem d_Mach_nothingIsLeft_25 : decode b_Mach_nothingIsLeft 25 = .ok (.ireturn, 1) := by decide +kernel
theorem d_Mach_nothingIsLeft_10 : decode b_Mach_nothingIsLeft 10 = .ok (.aload_n 0, 1) := by decide +kernel
theorem d_Mach_nothingIsLeft_11 : decode b_Mach_nothingIsLeft 11 = .ok (.getfield 45, 3) := by decide +kernel
theorem d_Mach_nothingIsLeft_14 : decode b_Mach_nothingIsLeft 14 = .ok (.invokevirtual 166, 3) := by decide +kernel
theorem d_Mach_nothingIsLeft_17 : decode b_Mach_nothingIsLeft 17 = .ok (.ifCond .ne 7, 3) := by decide +kernel
theorem d_Mach_nothingIsLeft_20 : decode b_Mach_nothingIsLeft 20 = .ok (.iconst 1, 1) := by decide +kernel
theorem d_Mach_nothingIsLeft_21 : decode b_Mach_nothingIsLeft 21 = .ok (.goto 4, 3) := by decide +kernel
theorem d_Mach_told_0 : decode b_Mach_told 0 = .ok (.iload_n 1, 1) := by decide +kernel
theorem d_Mach_told_1 : decode b_Mach_told 1 = .ok (.tableswitch 119 0 7 #[47, 55, 63, 71, 79, 87, 95, 103], 47) := by decide +kernel
theorem d_Mach_told_48 : decode b_Mach_told 48 = .ok (.aload_n 0, 1) := by decide +kernel
theorem d_Mach_told_49 : decode b_Mach_told 49 = .ok (.getfield 14, 3) := by decide +kernel
theorem d_Mach_told_52 : decode b_Mach_told 52 = .ok (.invokevirtual 120, 3) := by decide +kernel
theorem d_Mach_told_55 : decode b_Mach_told 55 = .ok (.ireturn, 1) := by decide +kernel
theorem d_Mach_told_56 : decode b_Mach_told 56 = .ok (.aload_n 0, 1) := by decide +kernel
theorem d_Mach_told_57 : decode b_Mach_told 57 = .ok (.getfield 18, 3) := by decide +kernel
theorem d_Mach_told_60 : decode b_Mach_told 60 = .ok (.invokevirtual 120, 3) := by decide +kernel
theorem d_Mach_told_63 : decode b_Mach_told 63 = .ok (.ireturn, 1) := by decide +kernel
theorem d_Mach_told_64 : decode b_Mach_told 64 = .ok (.aload_n 0, 1) := by decide +kernel
theorem d_Mach_told_65 : decode b_Mach_told 65 = .ok (.getfield 24, 3) := by decide +kernel
theorem d_Mach_told_68 : decode b_Mach_told 68 = .ok (.invokevirtual 144, 3) := by decide +kernel
theorem d_Mach_told_71 : decode b_Mach_told 71 = .ok (.ireturn, 1) := by decide +kernel
theorem d_Mach_told_72 : decode b_Mach_told 72 = .ok (.aload_n 0, 1) := by decide +kernel
theorem d_Mach_told_73 : decode b_Mach_told 73 = .ok (.getfield 52, 3) := by decide +kernel
theorem d_Mach_told_76 : decode b_Mach_told 76 = .ok (.invokevirtual 145, 3) := by decide +kernel
theorem d_Mach_told_79 : decode b_Mach_told 79 = .ok (.ireturn, 1) := by decide +kernel
theorem d_Mach_told_80 : decode b_Mach_told 80 = .ok (.aload_n 0, 1) := by decide +kernel
theorem d_Mach_told_81 : decode b_Mach_told 81 = .ok (.getfield 31, 3) := by decide +kernel
theorem d_Mach_told_84 : decode b_Mach_told 84 = .ok (.invokevirtual 146, 3) := by decide +kernel
theorem d_Mach_told_87 : decode b_Mach_told 87 = .ok (.ireturn, 1) := by decide +kernel
theorem d_Mach_told_88 : decode b_Mach_told 88 = .ok (.aload_n 0, 1) := by decide +kernel
theorem d_Mach_told_89 : decode b_Mach_told 89 = .ok (.getfield 31, 3) := by decide +kernel
theorem d_Mach_told_92 : decode b_Mach_told 92 = .ok (.invokevirtual 149, 3) := by decide +kernel
theorem d_Mach_told_95 : decode b_Mach_told 95 = .ok (.ireturn, 1) := by decide +kernel
theorem d_Mach_told_96 : decode b_Mach_told 96 = .ok (.aload_n 0, 1) := by decide +kernel
theorem d_Mach_told_97 : decode b_Mach_told 97 = .ok (.getfield 31, 3) := by decide +kernel
theorem d_Mach_told_100 : decode b_Mach_told 100 = .ok (.invokevirtual 152, 3) := by decide +kernel
theorem d_Mach_told_103 : decode b_Mach_told 103 = .ok (.ireturn, 1) := by decide +kernel
theorem d_Mach_told_104 : decode b_Mach_told 104 = .ok (.aload_n 0, 1) := by decide +kernel
theorem d_Mach_told_105 : decode b_Mach_told 105 = .ok (.getfield 61, 3) := by decide +kernel
theorem d_Mach_told_108 : decode b_Mach_told 108 = .ok (.invokevirtual 155, 3) := by decide +kernel
theorem d_Mach_told_111 : decode b_Mach_told 111 = .ok (.ifCond .eq 7, 3) := by decide +kernel
theorem d_Mach_told_118 : decode b_Mach_told 118 = .ok (.iconst 0, 1) := by decide +kernel
theorem d_Mach_told_119 : decode b_Mach_told 119 = .ok (.ireturn, 1) := by decide +kernel
theorem d_Mach_told_114 : decode b_Mach_told 114 = .ok (.iconst 1, 1) := by decide +kernel
theorem d_Mach_told_115 : decode b_Mach_told 115 = .ok (.goto 4, 3) := by decide +kernel
theorem d_Mach_told_120 : decode b_Mach_told 120 = .ok (.iconst (-1), 1) := by decide +kernel
theorem d_Mach_told_121 : decode b_Mach_told 121 = .ok (.ireturn, 1) := by decide +kernel
/-- the picture of ColonMachine$Words.size -/
def F_Words_size (n : Int32) : Int32 := n
theorem F_Words_size_e (n : Int32) : F_Words_size n = n := rfl
set_option maxHeartbeats 4000000 in
set_option maxRecDepth 100000 in
theorem c_Words_size (l : Launch) (D : va_G) (cI cJ cZ cW cT : ClassId) (sz : Nat) (h : Nat) (wv : Nat) (n : Int32)  : Met l y_Words_size w_Words_size ({ frames := 0, cells := 0, slots := 0, locals := 0 }) (va_Pc [.ref h] (zP D classes (TY cI cJ cZ cW cT) [(h, .inr (9, [.ref wv, .int n]))] sz)) (va_Qi (fun (r : Int32) (_ : Unit) => r = F_Words_size n ∧ (True)) (fun _ => zB D classes (TY cI cJ cZ cW cT) (va_A [(h, .inr (9, [.ref wv, .int n]))] sz) [(h, .inr (9, [.ref wv, .int n]))]) (va_A [(h, .inr (9, [.ref wv, .int n]))] sz)) 0 0 (va_A [(h, .inr (9, [.ref wv, .int n]))] sz) := by
  refine Met.ofW (cc := b_Words_size) (maxL := 1) (ret := (some .int)) (by decide) rfl ?_
  intro p e s m args below meth c s₁ B hml hv
  obtain ⟨rfl, hsz, hP, hK, hD0, hE⟩ := hv
  have hx := B.exec
  have hb := B.bytes
  have hr := B.returns
  have hts := atoms_spec (ws := w_Words_size) B.pre
  have hT : ∀ w ∈ TB, w.before _ s = true := fun w h => hts w (List.mem_cons_of_mem _ h)
  have hown : s.vm.findClass "ColonMachine$Words" = some m.cls := findClass_of_methodNamed B.named
  have hlocks := B.notSynchronized
  subst hsz
  have hD := hD0.self (sz := s.heap.size)
  generalize hAe : va_A [(h, .inr (9, [.ref wv, .int n]))] s.heap.size = A at hD hE ⊢
  have hA : ∀ q : Nat, s.heap.size ≤ q → A q := fun q h => by rw [← hAe]; exact Or.inr h
  have hS : va_S A s.heap s.heap [] := va_S.rf
  have hl := lv_entry [.ref h] (n := 1) (Nat.le_of_ble_eq_true rfl)
  rw [lg_entry_eq]
  generalize (lg_sl [.ref h] ++ List.replicate (1 - (lg_sl [.ref h]).length) Slot.unset).toArray = ls at hl ⊢
  have hl : lv_has ls 1 [(0, .ref h)] := hl
  have hF := F_Words_size_e n
  refine lv_aload_n hx hb d_Words_size_0 rfl (lv_at hl 0 rfl) ?_
  refine va_get (D := D) (v := .int n) (C := "ColonMachine$Words") (T := T_Words) (N := 2) hx hb hT i_Words hown hK hP 0 rfl rfl 1 (by decide) (hT _ fl_Words_17) (fun _ h9 => h9) rfl d_Words_size_1 ?_
  exact W.iret (v := n) hx hb hr (fun t ht hW => ⟨⟨_, (), rfl, ⟨hF.symm, trivial⟩, ⟨by rw [ht]; exact hP, va_K.moved hW.alike hK, hD⟩⟩, hS.F ht⟩) hS.2.2 d_Words_size_4
/-- the picture of ColonMachine$Compiler.isCompiling -/
def F_Compiler_isCompiling (kq : Int32) : Int32 := kq
theorem F_Compiler_isCompiling_e (kq : Int32) : F_Compiler_isCompiling kq = kq := rfl
set_option maxHeartbeats 4000000 in
set_option maxRecDepth 100000 in
theorem c_Compiler_isCompiling (l : Launch) (D : va_G) (cI cJ cZ cW cT : ClassId) (sz : Nat) (h : Nat) (tt : Nat) (ww : Nat) (mm : Nat) (oo : Nat) (ki : Nat) (kx1 : Nat) (kx2 : Nat) (ks : Int32) (kq : Int32) (kn : Int64) (hz : kq = 0 ∨ kq = 1) : Met l y_Compiler_isCompiling w_Compiler_isCompiling ({ frames := 0, cells := 0, slots := 0, locals := 0 }) (va_Pc [.ref h] (zP D classes (TY cI cJ cZ cW cT) [(h, .inr (2, [.ref tt, .ref ww, .ref mm, .ref oo, .ref ki, .int ks, .int kq, .long kn, .ref kx1, .ref kx2]))] sz)) (va_Qi (fun (r : Int32) (_ : Unit) => r = F_Compiler_isCompiling kq ∧ ((r = 0 ∨ r = 1))) (fun _ => zB D classes (TY cI cJ cZ cW cT) (va_A [(h, .inr (2, [.ref tt, .ref ww, .ref mm, .ref oo, .ref ki, .int ks, .int kq, .long kn, .ref kx1, .ref kx2]))] sz) [(h, .inr (2, [.ref tt, .ref ww, .ref mm, .ref oo, .ref ki, .int ks, .int kq, .long kn, .ref kx1, .ref kx2]))]) (va_A [(h, .inr (2, [.ref tt, .ref ww, .ref mm, .ref oo, .ref ki, .int ks, .int kq, .long kn, .ref kx1, .ref kx2]))] sz)) 0 0 (va_A [(h, .inr (2, [.ref tt, .ref ww, .ref mm, .ref oo, .ref ki, .int ks, .int kq, .long kn, .ref kx1, .ref kx2]))] sz) := by
  refine Met.ofW (cc := b_Compiler_isCompiling) (maxL := 1) (ret := (some .boolean)) (by decide) rfl ?_
  intro p e s m args below meth c s₁ B hml hv
  obtain ⟨rfl, hsz, hP, hK, hD0, hE⟩ := hv
  have hx := B.exec
  have hb := B.bytes
  have hr := B.returns
  have hts := atoms_spec (ws := w_Compiler_isCompiling) B.pre
  have hT : ∀ w ∈ TB, w.before _ s = true := fun w h => hts w (List.mem_cons_of_mem _ h)
  have hown : s.vm.findClass "ColonMachine$Compiler" = some m.cls := findClass_of_methodNamed B.named
  have hlocks := B.notSynchronized
  subst hsz
  have hD := hD0.self (sz := s.heap.size)
  generalize hAe : va_A [(h, .inr (2, [.ref tt, .ref ww, .ref mm, .ref oo, .ref ki, .int ks, .int kq, .long kn, .ref kx1, .ref kx2]))] s.heap.size = A at hD hE ⊢
  have hA : ∀ q : Nat, s.heap.size ≤ q → A q := fun q h => by rw [← hAe]; exact Or.inr h
  have hS : va_S A s.heap s.heap [] := va_S.rf
  have hl := lv_entry [.ref h] (n := 1) (Nat.le_of_ble_eq_true rfl)
  rw [lg_entry_eq]
  generalize (lg_sl [.ref h] ++ List.replicate (1 - (lg_sl [.ref h]).length) Slot.unset).toArray = ls at hl ⊢
  have hl : lv_has ls 1 [(0, .ref h)] := hl
  have hF := F_Compiler_isCompiling_e kq
  refine lv_aload_n hx hb d_Compiler_isCompiling_0 rfl (lv_at hl 0 rfl) ?_
  refine va_get (D := D) (v := .int kq) (C := "ColonMachine$Compiler") (T := T_Compiler) (N := 10) hx hb hT i_Compiler hown hK hP 0 rfl rfl 6 (by decide) (hT _ fl_Compiler_21) (fun _ h9 => h9) rfl d_Compiler_isCompiling_1 ?_
  exact W.zret (v := kq) hx hb hr (z_nb hz) (fun t ht hW => ⟨⟨_, (), rfl, ⟨hF.symm, hz⟩, ⟨by rw [ht]; exact hP, va_K.moved hW.alike hK, hD⟩⟩, hS.F ht⟩) hS.2.2 d_Compiler_isCompiling_4
/-- the picture of ColonMachine.code -/
def F_Mach_code (lc : Int32) : Int32 := lc
theorem F_Mach_code_e (lc : Int32) : F_Mach_code lc = lc := rfl
set_option maxHeartbeats 4000000 in
set_option maxRecDepth 100000 in
theorem c_Mach_code (l : Launch) (D : va_G) (cI cJ cZ cW cT : ClassId) (sz : Nat) (hm : Nat) (dd : Nat) (rr : Nat) (kc : Nat) (mm : Nat) (oo : Nat) (tt : Nat) (ww : Nat) (kk : Nat) (pp : Nat) (lc : Int32)  : Met l y_Mach_code w_Mach_code ({ frames := 0, cells := 0, slots := 0, locals := 0 }) (va_Pc [.ref hm] (zP D classes (TY cI cJ cZ cW cT) [(hm, .inr (10, [.ref dd, .ref rr, .ref kc, .ref mm, .ref oo, .ref tt, .ref ww, .ref kk, .ref pp, .int lc]))] sz)) (va_Qi (fun (r : Int32) (_ : Unit) => r = F_Mach_code lc ∧ (True)) (fun _ => zB D classes (TY cI cJ cZ cW cT) (va_A [(hm, .inr (10, [.ref dd, .ref rr, .ref kc, .ref mm, .ref oo, .ref tt, .ref ww, .ref kk, .ref pp, .int lc]))] sz) [(hm, .inr (10, [.ref dd, .ref rr, .ref kc, .ref mm, .ref oo, .ref tt, .ref ww, .ref kk, .ref pp, .int lc]))]) (va_A [(hm, .inr (10, [.ref dd, .ref rr, .ref kc, .ref mm, .ref oo, .ref tt, .ref ww, .ref kk, .ref pp, .int lc]))] sz)) 0 0 (va_A [(hm, .inr (10, [.ref dd, .ref rr, .ref kc, .ref mm, .ref oo, .ref tt, .ref ww, .ref kk, .ref pp, .int lc]))] sz) := by
  refine Met.ofW (cc := b_Mach_code) (maxL := 1) (ret := (some .int)) (by decide) rfl ?_
  intro p e s m args below meth c s₁ B hml hv
  obtain ⟨rfl, hsz, hP, hK, hD0, hE⟩ := hv
  have hx := B.exec
  have hb := B.bytes
  have hr := B.returns
  have hts := atoms_spec (ws := w_Mach_code) B.pre
  have hT : ∀ w ∈ TB, w.before _ s = true := fun w h => hts w (List.mem_cons_of_mem _ h)
  have hown : s.vm.findClass "ColonMachine" = some m.cls := findClass_of_methodNamed B.named
  have hlocks := B.notSynchronized
  subst hsz
  have hD := hD0.self (sz := s.heap.size)
  generalize hAe : va_A [(hm, .inr (10, [.ref dd, .ref rr, .ref kc, .ref mm, .ref oo, .ref tt, .ref ww, .ref kk, .ref pp, .int lc]))] s.heap.size = A at hD hE ⊢
  have hA : ∀ q : Nat, s.heap.size ≤ q → A q := fun q h => by rw [← hAe]; exact Or.inr h
  have hS : va_S A s.heap s.heap [] := va_S.rf
  have hl := lv_entry [.ref hm] (n := 1) (Nat.le_of_ble_eq_true rfl)
  rw [lg_entry_eq]
  generalize (lg_sl [.ref hm] ++ List.replicate (1 - (lg_sl [.ref hm]).length) Slot.unset).toArray = ls at hl ⊢
  have hl : lv_has ls 1 [(0, .ref hm)] := hl
  have hF := F_Mach_code_e lc
  refine lv_aload_n hx hb d_Mach_code_0 rfl (lv_at hl 0 rfl) ?_
  refine va_get (D := D) (v := .int lc) (C := "ColonMachine") (T := T_Mach) (N := 10) hx hb hT i_Mach hown hK hP 0 rfl rfl 9 (by decide) (hT _ fl_Mach_74) (fun _ h9 => h9) rfl d_Mach_code_1 ?_
  exact W.iret (v := lc) hx hb hr (fun t ht hW => ⟨⟨_, (), rfl, ⟨hF.symm, trivial⟩, ⟨by rw [ht]; exact hP, va_K.moved hW.alike hK, hD⟩⟩, hS.F ht⟩) hS.2.2 d_Mach_code_4
/-- the picture of ColonMachine.out -/
def F_Mach_out (un : Int32) : Int32 := bd (F_Out_size un) (fun q1 => q1)
theorem F_Mach_out_e (un : Int32) : F_Mach_out un = bd (F_Out_size un) (fun q1 => q1) := rfl
set_option maxHeartbeats 4000000 in
set_option maxRecDepth 100000 in
theorem c_Mach_out (l : Launch) (D : va_G) (cI cJ cZ cW cT : ClassId) (sz : Nat) (hm : Nat) (dd : Nat) (rr : Nat) (kc : Nat) (mm : Nat) (oo : Nat) (tt : Nat) (ww : Nat) (kk : Nat) (pp : Nat) (oa : Nat) (lc : Int32) (un : Int32) (hio : OutOk un) : Met l y_Mach_out w_Mach_out ({ frames := 1, cells := 0, slots := 0, locals := 20 }) (va_Pc [.ref hm] (zP D classes (TY cI cJ cZ cW cT) [(hm, .inr (10, [.ref dd, .ref rr, .ref kc, .ref mm, .ref oo, .ref tt, .ref ww, .ref kk, .ref pp, .int lc])), (oo, .inr (5, [.ref oa, .int un]))] sz)) (va_Qi (fun (r : Int32) (_ : Unit) => r = F_Mach_out un ∧ (True)) (fun _ => zB D classes (TY cI cJ cZ cW cT) (va_A [(hm, .inr (10, [.ref dd, .ref rr, .ref kc, .ref mm, .ref oo, .ref tt, .ref ww, .ref kk, .ref pp, .int lc])), (oo, .inr (5, [.ref oa, .int un]))] sz) [(hm, .inr (10, [.ref dd, .ref rr, .ref kc, .ref mm, .ref oo, .ref tt, .ref ww, .ref kk, .ref pp, .int lc])), (oo, .inr (5, [.ref oa, .int un]))]) (va_A [(hm, .inr (10, [.ref dd, .ref rr, .ref kc, .ref mm, .ref oo, .ref tt, .ref ww, .ref kk, .ref pp, .int lc])), (oo, .inr (5, [.ref oa, .int un]))] sz)) 0 0 (va_A [(hm, .inr (10, [.ref dd, .ref rr, .ref kc, .ref mm, .ref oo, .ref tt, .ref ww, .ref kk, .ref pp, .int lc])), (oo, .inr (5, [.ref oa, .int un]))] sz) := by
  refine Met.ofW (cc := b_Mach_out) (maxL := 1) (ret := (some .int)) (by decide) rfl ?_
  intro p e s m args below meth c s₁ B hml hv
  obtain ⟨rfl, hsz, hP, hK, hD0, hE⟩ := hv
  have hx := B.exec
  have hb := B.bytes
  have hr := B.returns
  have hts := atoms_spec (ws := w_Mach_out) B.pre
  have hT : ∀ w ∈ TB, w.before _ s = true := fun w h => hts w (List.mem_cons_of_mem _ h)
  have hown : s.vm.findClass "ColonMachine" = some m.cls := findClass_of_methodNamed B.named
  have hlocks := B.notSynchronized
  subst hsz
  have hD := hD0.self (sz := s.heap.size)
  generalize hAe : va_A [(hm, .inr (10, [.ref dd, .ref rr, .ref kc, .ref mm, .ref oo, .ref tt, .ref ww, .ref kk, .ref pp, .int lc])), (oo, .inr (5, [.ref oa, .int un]))] s.heap.size = A at hD hE ⊢
  have hA : ∀ q : Nat, s.heap.size ≤ q → A q := fun q h => by rw [← hAe]; exact Or.inr h
  have hS : va_S A s.heap s.heap [] := va_S.rf
  have hl := lv_entry [.ref hm] (n := 1) (Nat.le_of_ble_eq_true rfl)
  rw [lg_entry_eq]
  generalize (lg_sl [.ref hm] ++ List.replicate (1 - (lg_sl [.ref hm]).length) Slot.unset).toArray = ls at hl ⊢
  have hl : lv_has ls 1 [(0, .ref hm)] := hl
  have hF := F_Mach_out_e un
  refine lv_aload_n hx hb d_Mach_out_0 rfl (lv_at hl 0 rfl) ?_
  refine va_get (D := D) (v := .ref oo) (C := "ColonMachine") (T := T_Mach) (N := 10) hx hb hT i_Mach hown hK hP 0 rfl rfl 4 (by decide) (hT _ fl_Mach_38) (fun _ h9 => h9) rfl d_Mach_out_1 ?_
  refine kN_pi (wr := [(hm, .inr (10, [.ref dd, .ref rr, .ref kc, .ref mm, .ref oo, .ref tt, .ref ww, .ref kk, .ref pp, .int lc]))]) (zV (wc := [(oo, .inr (5, [.ref oa, .int un]))]) (As := []) (rest := []) (st0 := [.ref oo]) ⟨hx, hb, hml, hown, hT⟩ (c_Out_size l D cI cJ cZ cW cT s.heap.size oo oa un hio) (cwV 0 hT (tbV ml_Mach_158 im_Out_size se_Out_size in_Out co_Out_size) rfl rfl rfl v_Out_size ⟨Nat.le_of_ble_eq_true rfl, Nat.le_of_ble_eq_true rfl⟩) hK hE hP hD hS hA [1] rfl rfl 0 rfl rfl rfl hl.1 rfl (Nat.le_of_ble_eq_true rfl) d_Mach_out_4 ⟨Nat.le_of_ble_eq_true rfl, Nat.le_of_ble_eq_true rfl⟩) hP hD hS hA [1] [0] rfl rfl rfl (by decide) [0, 1] rfl rfl (fun q1 H locs e1 k1 hP hD hS => ?_)
  have hP : va_P D classes [(hm, .inr (10, [.ref dd, .ref rr, .ref kc, .ref mm, .ref oo, .ref tt, .ref ww, .ref kk, .ref pp, .int lc])), (oo, .inr (5, [.ref oa, .int un]))] H := hP
  have hD : va_D A [(hm, .inr (10, [.ref dd, .ref rr, .ref kc, .ref mm, .ref oo, .ref tt, .ref ww, .ref kk, .ref pp, .int lc])), (oo, .inr (5, [.ref oa, .int un]))] := hD
  have hF := hF.trans (bd_e e1)
  exact W.iret (v := q1) hx hb hr (fun t ht hW => ⟨⟨_, (), rfl, ⟨hF.symm, trivial⟩, ⟨by rw [ht]; exact hP, va_K.moved hW.alike hK, hD⟩⟩, hS.F ht⟩) hS.2.2 d_Mach_out_7
/-- the picture of ColonMachine.word -/
def F_Mach_word (un : Int32) (uf : Nat → Int32) (x1 : Int32) : Int64 := bd (F_Out_eightBytes un uf x1) (fun q1 => q1)
theorem F_Mach_word_e (un : Int32) (uf : Nat → Int32) (x1 : Int32) : F_Mach_word un uf x1 = bd (F_Out_eightBytes un uf x1) (fun q1 => q1) := rfl
set_option maxHeartbeats 4000000 in
set_option maxRecDepth 100000 in
theorem c_Mach_word (l : Launch) (D : va_G) (cI cJ cZ cW cT : ClassId) (sz : Nat) (hm : Nat) (dd : Nat) (rr : Nat) (kc : Nat) (mm : Nat) (oo : Nat) (tt : Nat) (ww : Nat) (kk : Nat) (pp : Nat) (oa : Nat) (lc : Int32) (un : Int32) (uf : Nat → Int32) (x1 : Int32) (hio : OutOk un) : Met l y_Mach_word w_Mach_word ({ frames := 1, cells := 0, slots := 0, locals := 25 }) (va_Pc [.ref hm, .int x1] (zP D classes (TY cI cJ cZ cW cT) [(hm, .inr (10, [.ref dd, .ref rr, .ref kc, .ref mm, .ref oo, .ref tt, .ref ww, .ref kk, .ref pp, .int lc])), (oo, .inr (5, [.ref oa, .int un])), (oa, .inl (cI, 800, .inl uf))] sz)) (va_Ql (fun (r : Int64) (_ : Unit) => r = F_Mach_word un uf x1 ∧ (True)) (fun _ => zB D classes (TY cI cJ cZ cW cT) (va_A [(hm, .inr (10, [.ref dd, .ref rr, .ref kc, .ref mm, .ref oo, .ref tt, .ref ww, .ref kk, .ref pp, .int lc])), (oo, .inr (5, [.ref oa, .int un])), (oa, .inl (cI, 800, .inl uf))] sz) [(hm, .inr (10, [.ref dd, .ref rr, .ref kc, .ref mm, .ref oo, .ref tt, .ref ww, .ref kk, .ref pp, .int lc])), (oo, .inr (5, [.ref oa, .int un])), (oa, .inl (cI, 800, .inl uf))]) (va_A [(hm, .inr (10, [.ref dd, .ref rr, .ref kc, .ref mm, .ref oo, .ref tt, .ref ww, .ref kk, .ref pp, .int lc])), (oo, .inr (5, [.ref oa, .int un])), (oa, .inl (cI, 800, .inl uf))] sz)) 0 0 (va_A [(hm, .inr (10, [.ref dd, .ref rr, .ref kc, .ref mm, .ref oo, .ref tt, .ref ww, .ref kk, .ref pp, .int lc])), (oo, .inr (5, [.ref oa, .int un])), (oa, .inl (cI, 800, .inl uf))] sz) := by
  refine Met.ofW (cc := b_Mach_word) (maxL := 2) (ret := (some .long)) (by decide) rfl ?_
  intro p e s m args below meth c s₁ B hml hv
  obtain ⟨rfl, hsz, hP, hK, hD0, hE⟩ := hv
  have hx := B.exec
  have hb := B.bytes
  have hr := B.returns
  have hts := atoms_spec (ws := w_Mach_word) B.pre
  have hT : ∀ w ∈ TB, w.before _ s = true := fun w h => hts w (List.mem_cons_of_mem _ h)
  have hown : s.vm.findClass "ColonMachine" = some m.cls := findClass_of_methodNamed B.named
  have hlocks := B.notSynchronized
  subst hsz
  have hD := hD0.self (sz := s.heap.size)
  generalize hAe : va_A [(hm, .inr (10, [.ref dd, .ref rr, .ref kc, .ref mm, .ref oo, .ref tt, .ref ww, .ref kk, .ref pp, .int lc])), (oo, .inr (5, [.ref oa, .int un])), (oa, .inl (cI, 800, .inl uf))] s.heap.size = A at hD hE ⊢
  have hA : ∀ q : Nat, s.heap.size ≤ q → A q := fun q h => by rw [← hAe]; exact Or.inr h
  have hS : va_S A s.heap s.heap [] := va_S.rf
  have hl := lv_entry [.ref hm, .int x1] (n := 2) (Nat.le_of_ble_eq_true rfl)
  rw [lg_entry_eq]
  generalize (lg_sl [.ref hm, .int x1] ++ List.replicate (2 - (lg_sl [.ref hm, .int x1]).length) Slot.unset).toArray = ls at hl ⊢
  have hl : lv_has ls 2 [(0, .ref hm), (1, .int x1)] := hl
  have hF := F_Mach_word_e un uf x1
  refine lv_aload_n hx hb d_Mach_word_0 rfl (lv_at hl 0 rfl) ?_
  refine va_get (D := D) (v := .ref oo) (C := "ColonMachine") (T := T_Mach) (N := 10) hx hb hT i_Mach hown hK hP 0 rfl rfl 4 (by decide) (hT _ fl_Mach_38) (fun _ h9 => h9) rfl d_Mach_word_1 ?_
  refine lv_iload_n hx hb d_Mach_word_4 rfl (lv_at hl 1 rfl) ?_
  refine kN_pl (wr := [(hm, .inr (10, [.ref dd, .ref rr, .ref kc, .ref mm, .ref oo, .ref tt, .ref ww, .ref kk, .ref pp, .int lc]))]) (zV (wc := [(oo, .inr (5, [.ref oa, .int un])), (oa, .inl (cI, 800, .inl uf))]) (As := [.int x1]) (rest := []) (st0 := [.int x1, .ref oo]) ⟨hx, hb, hml, hown, hT⟩ (c_Out_eightBytes l D cI cJ cZ cW cT s.heap.size oo oa un uf x1 hio) (cwV 1 hT (tbV ml_Mach_159 im_Out_eightBytes se_Out_eightBytes in_Out co_Out_eightBytes) rfl rfl rfl v_Out_eightBytes ⟨Nat.le_of_ble_eq_true rfl, Nat.le_of_ble_eq_true rfl⟩) hK hE hP hD hS hA [1, 2] rfl rfl 0 rfl rfl rfl hl.1 rfl (Nat.le_of_ble_eq_true rfl) d_Mach_word_5 ⟨Nat.le_of_ble_eq_true rfl, Nat.le_of_ble_eq_true rfl⟩) hP hD hS hA [1, 2] [0] rfl rfl rfl (by decide) [0, 1, 2] rfl rfl (fun q1 H locs e1 k1 hP hD hS => ?_)
  have hP : va_P D classes [(hm, .inr (10, [.ref dd, .ref rr, .ref kc, .ref mm, .ref oo, .ref tt, .ref ww, .ref kk, .ref pp, .int lc])), (oo, .inr (5, [.ref oa, .int un])), (oa, .inl (cI, 800, .inl uf))] H := hP
  have hD : va_D A [(hm, .inr (10, [.ref dd, .ref rr, .ref kc, .ref mm, .ref oo, .ref tt, .ref ww, .ref kk, .ref pp, .int lc])), (oo, .inr (5, [.ref oa, .int un])), (oa, .inl (cI, 800, .inl uf))] := hD
  have hF := hF.trans (bd_e e1)
  exact W.lret (v := q1) hx hb hr (fun t ht hW => ⟨⟨_, (), rfl, ⟨hF.symm, trivial⟩, ⟨by rw [ht]; exact hP, va_K.moved hW.alike hK, hD⟩⟩, hS.F ht⟩) hS.2.2 d_Mach_word_8
/-- the picture of ColonMachine.clear -/
def F_Mach_clear (un : Int32) : Int32 × Int32 := bd (F_Out_size un) (fun q1 => bd (F_Out_empty) (fun q2 => (q1, q2)))
theorem F_Mach_clear_e (un : Int32) : F_Mach_clear un = bd (F_Out_size un) (fun q1 => bd (F_Out_empty) (fun q2 => (q1, q2))) := rfl
set_option maxHeartbeats 4000000 in
set_option maxRecDepth 100000 in
theorem c_Mach_clear (l : Launch) (D : va_G) (cI cJ cZ cW cT : ClassId) (sz : Nat) (hm : Nat) (dd : Nat) (rr : Nat) (kc : Nat) (mm : Nat) (oo : Nat) (tt : Nat) (ww : Nat) (kk : Nat) (pp : Nat) (oa : Nat) (lc : Int32) (un : Int32) (hio : OutOk un) : Met l y_Mach_clear w_Mach_clear ({ frames := 1, cells := 0, slots := 0, locals := 20 }) (va_Pc [.ref hm] (zP D classes (TY cI cJ cZ cW cT) [(hm, .inr (10, [.ref dd, .ref rr, .ref kc, .ref mm, .ref oo, .ref tt, .ref ww, .ref kk, .ref pp, .int lc])), (oo, .inr (5, [.ref oa, .int un]))] sz)) (va_Qi (fun (r : Int32) (u : Int32) => (r, u) = F_Mach_clear un ∧ ((OutOk u))) (fun u => zB D classes (TY cI cJ cZ cW cT) (va_A [(hm, .inr (10, [.ref dd, .ref rr, .ref kc, .ref mm, .ref oo, .ref tt, .ref ww, .ref kk, .ref pp, .int lc])), (oo, .inr (5, [.ref oa, .int un]))] sz) [(hm, .inr (10, [.ref dd, .ref rr, .ref kc, .ref mm, .ref oo, .ref tt, .ref ww, .ref kk, .ref pp, .int lc])), (oo, .inr (5, [.ref oa, .int u]))]) (va_A [(hm, .inr (10, [.ref dd, .ref rr, .ref kc, .ref mm, .ref oo, .ref tt, .ref ww, .ref kk, .ref pp, .int lc])), (oo, .inr (5, [.ref oa, .int un]))] sz)) 0 0 (va_A [(hm, .inr (10, [.ref dd, .ref rr, .ref kc, .ref mm, .ref oo, .ref tt, .ref ww, .ref kk, .ref pp, .int lc])), (oo, .inr (5, [.ref oa, .int un]))] sz) := by
  refine Met.ofW (cc := b_Mach_clear) (maxL := 2) (ret := (some .int)) (by decide) rfl ?_
  intro p e s m args below meth c s₁ B hml hv
  obtain ⟨rfl, hsz, hP, hK, hD0, hE⟩ := hv
  have hx := B.exec
  have hb := B.bytes
  have hr := B.returns
  have hts := atoms_spec (ws := w_Mach_clear) B.pre
  have hT : ∀ w ∈ TB, w.before _ s = true := fun w h => hts w (List.mem_cons_of_mem _ h)
  have hown : s.vm.findClass "ColonMachine" = some m.cls := findClass_of_methodNamed B.named
  have hlocks := B.notSynchronized
  subst hsz
  have hD := hD0.self (sz := s.heap.size)
  generalize hAe : va_A [(hm, .inr (10, [.ref dd, .ref rr, .ref kc, .ref mm, .ref oo, .ref tt, .ref ww, .ref kk, .ref pp, .int lc])), (oo, .inr (5, [.ref oa, .int un]))] s.heap.size = A at hD hE ⊢
  have hA : ∀ q : Nat, s.heap.size ≤ q → A q := fun q h => by rw [← hAe]; exact Or.inr h
  have hS : va_S A s.heap s.heap [] := va_S.rf
  have hl := lv_entry [.ref hm] (n := 2) (Nat.le_of_ble_eq_true rfl)
  rw [lg_entry_eq]
  generalize (lg_sl [.ref hm] ++ List.replicate (2 - (lg_sl [.ref hm]).length) Slot.unset).toArray = ls at hl ⊢
  have hl : lv_has ls 2 [(0, .ref hm)] := hl
  have hF := F_Mach_clear_e un
  refine lv_aload_n hx hb d_Mach_clear_0 rfl (lv_at hl 0 rfl) ?_
  refine va_get (D := D) (v := .ref oo) (C := "ColonMachine") (T := T_Mach) (N := 10) hx hb hT i_Mach hown hK hP 0 rfl rfl 4 (by decide) (hT _ fl_Mach_38) (fun _ h9 => h9) rfl d_Mach_clear_1 ?_
  refine kN_pi (wr := [(hm, .inr (10, [.ref dd, .ref rr, .ref kc, .ref mm, .ref oo, .ref tt, .ref ww, .ref kk, .ref pp, .int lc]))]) (zV (wc := [(oo, .inr (5, [.ref oa, .int un]))]) (As := []) (rest := []) (st0 := [.ref oo]) ⟨hx, hb, hml, hown, hT⟩ (c_Out_size l D cI cJ cZ cW cT s.heap.size oo oa un hio) (cwV 0 hT (tbV ml_Mach_158 im_Out_size se_Out_size in_Out co_Out_size) rfl rfl rfl v_Out_size ⟨Nat.le_of_ble_eq_true rfl, Nat.le_of_ble_eq_true rfl⟩) hK hE hP hD hS hA [1] rfl rfl 0 rfl rfl rfl hl.1 rfl (Nat.le_of_ble_eq_true rfl) d_Mach_clear_4 ⟨Nat.le_of_ble_eq_true rfl, Nat.le_of_ble_eq_true rfl⟩) hP hD hS hA [1] [0] rfl rfl rfl (by decide) [0, 1] rfl rfl (fun q1 H locs e1 k1 hP hD hS => ?_)
  have hP : va_P D classes [(hm, .inr (10, [.ref dd, .ref rr, .ref kc, .ref mm, .ref oo, .ref tt, .ref ww, .ref kk, .ref pp, .int lc])), (oo, .inr (5, [.ref oa, .int un]))] H := hP
  have hD : va_D A [(hm, .inr (10, [.ref dd, .ref rr, .ref kc, .ref mm, .ref oo, .ref tt, .ref ww, .ref kk, .ref pp, .int lc])), (oo, .inr (5, [.ref oa, .int un]))] := hD
  have hF := hF.trans (bd_e e1)
  refine lv_istore_n (lv' := [(1, .int q1), (0, .ref hm)]) hx hb d_Mach_clear_7 rfl hl (by decide) rfl (fun ls hl => ?_)
  refine lv_aload_n hx hb d_Mach_clear_8 rfl (lv_at hl 1 rfl) ?_
  refine va_get (D := D) (v := .ref oo) (C := "ColonMachine") (T := T_Mach) (N := 10) hx hb hT i_Mach hown hK hP 0 rfl rfl 4 (by decide) (hT _ fl_Mach_38) (fun _ h9 => h9) rfl d_Mach_clear_9 ?_
  refine kN_sv (wr := [(hm, .inr (10, [.ref dd, .ref rr, .ref kc, .ref mm, .ref oo, .ref tt, .ref ww, .ref kk, .ref pp, .int lc]))]) (fun u : Int32 => [(hm, .inr (10, [.ref dd, .ref rr, .ref kc, .ref mm, .ref oo, .ref tt, .ref ww, .ref kk, .ref pp, .int lc])), (oo, .inr (5, [.ref oa, .int u]))]) (zV (wc := [(oo, .inr (5, [.ref oa, .int un]))]) (As := []) (rest := []) (st0 := [.ref oo]) ⟨hx, hb, hml, hown, hT⟩ (c_Out_empty l D cI cJ cZ cW cT H.size oo oa un hio) (cwV 0 hT (tbV ml_Mach_163 im_Out_empty se_Out_empty in_Out co_Out_empty) rfl rfl rfl v_Out_empty ⟨Nat.le_of_ble_eq_true rfl, Nat.le_of_ble_eq_true rfl⟩) hK hE hP hD hS hA [1] rfl rfl 0 rfl rfl rfl hl.1 rfl (Nat.le_of_ble_eq_true rfl) d_Mach_clear_12 ⟨Nat.le_of_ble_eq_true rfl, Nat.le_of_ble_eq_true rfl⟩) hP hD hS hA [1] [0] rfl rfl rfl (by decide) [0, 1] rfl (fun u => rfl) (fun q2 H locs e2 k2 hP hD hS => ?_)
  have hP : va_P D classes [(hm, .inr (10, [.ref dd, .ref rr, .ref kc, .ref mm, .ref oo, .ref tt, .ref ww, .ref kk, .ref pp, .int lc])), (oo, .inr (5, [.ref oa, .int q2]))] H := hP
  have hD : va_D A [(hm, .inr (10, [.ref dd, .ref rr, .ref kc, .ref mm, .ref oo, .ref tt, .ref ww, .ref kk, .ref pp, .int lc])), (oo, .inr (5, [.ref oa, .int q2]))] := hD
  have hF := hF.trans (bd_e e2)
  refine lv_iload_n hx hb d_Mach_clear_15 rfl (lv_at hl 0 rfl) ?_
  exact W.iret (v := q1) hx hb hr (fun t ht hW => ⟨⟨_, _, rfl, ⟨hF.symm, k2⟩, ⟨by rw [ht]; exact hP, va_K.moved hW.alike hK, hD⟩⟩, hS.F ht⟩) hS.2.2 d_Mach_clear_16
/-- the picture of ColonMachine.nothingIsLeft -/
def F_Mach_nothingIsLeft (cn : Int32) (tb : Int32) (te : Int32) (tf : Nat → Int32) : Int32 × Int32 := bd (F_Calls_isEmpty cn) (fun q1 => if q1 = 0 then (0, tb) else (bd (F_Text_hasMore tb te tf) (fun q3 => if q3.1 = 0 then (1, q3.2) else (0, q3.2))))
theorem F_Mach_nothingIsLeft_e (cn : Int32) (tb : Int32) (te : Int32) (tf : Nat → Int32) : F_Mach_nothingIsLeft cn tb te tf = bd (F_Calls_isEmpty cn) (fun q1 => if q1 = 0 then (0, tb) else (bd (F_Text_hasMore tb te tf) (fun q3 => if q3.1 = 0 then (1, q3.2) else (0, q3.2)))) := rfl
set_option maxHeartbeats 4000000 in
set_option maxRecDepth 100000 in
theorem c_Mach_nothingIsLeft (l : Launch) (D : va_G) (cI cJ cZ cW cT : ClassId) (sz : Nat) (hm : Nat) (dd : Nat) (rr : Nat) (kc : Nat) (mm : Nat) (oo : Nat) (tt : Nat) (ww : Nat) (kk : Nat) (pp : Nat) (ko : Nat) (kp : Nat) (kr : Nat) (kd : Nat) (ta : Nat) (lc : Int32) (cn : Int32) (tb : Int32) (te : Int32) (tw : Int32) (tx : Int32) (tf : Nat → Int32) (hic : CallsOk cn) (hit : TextOk tb te tw tx) : Met l y_Mach_nothingIsLeft w_Mach_nothingIsLeft ({ frames := 1, cells := 0, slots := 0, locals := 20 }) (va_Pc [.ref hm] (zP D classes (TY cI cJ cZ cW cT) [(hm, .inr (10, [.ref dd, .ref rr, .ref kc, .ref mm, .ref oo, .ref tt, .ref ww, .ref kk, .ref pp, .int lc])), (kc, .inr (0, [.ref ko, .ref kp, .ref kr, .ref kd, .int cn])), (tt, .inr (7, [.ref ta, .int tb, .int te, .int tw, .int tx])), (ta, .inl (cI, 500, .inl tf))] sz)) (va_Qi (fun (r : Int32) (u : Int32) => (r, u) = F_Mach_nothingIsLeft cn tb te tf ∧ ((TextOk u te tw tx) ∧ (r.toInt = 1 ∨ ¬ cn.toInt = 0 ∨ tb.toInt < te.toInt) ∧ (r = 0 ∨ r = 1))) (fun u => zB D classes (TY cI cJ cZ cW cT) (va_A [(hm, .inr (10, [.ref dd, .ref rr, .ref kc, .ref mm, .ref oo, .ref tt, .ref ww, .ref kk, .ref pp, .int lc])), (kc, .inr (0, [.ref ko, .ref kp, .ref kr, .ref kd, .int cn])), (tt, .inr (7, [.ref ta, .int tb, .int te, .int tw, .int tx])), (ta, .inl (cI, 500, .inl tf))] sz) [(hm, .inr (10, [.ref dd, .ref rr, .ref kc, .ref mm, .ref oo, .ref tt, .ref ww, .ref kk, .ref pp, .int lc])), (kc, .inr (0, [.ref ko, .ref kp, .ref kr, .ref kd, .int cn])), (tt, .inr (7, [.ref ta, .int u, .int te, .int tw, .int tx])), (ta, .inl (cI, 500, .inl tf))]) (va_A [(hm, .inr (10, [.ref dd, .ref rr, .ref kc, .ref mm, .ref oo, .ref tt, .ref ww, .ref kk, .ref pp, .int lc])), (kc, .inr (0, [.ref ko, .ref kp, .ref kr, .ref kd, .int cn])), (tt, .inr (7, [.ref ta, .int tb, .int te, .int tw, .int tx])), (ta, .inl (cI, 500, .inl tf))] sz)) 0 0 (va_A [(hm, .inr (10, [.ref dd, .ref rr, .ref kc, .ref mm, .ref oo, .ref tt, .ref ww, .ref kk, .ref pp, .int lc])), (kc, .inr (0, [.ref ko, .ref kp, .ref kr, .ref kd, .int cn])), (tt, .inr (7, [.ref ta, .int tb, .int te, .int tw, .int tx])), (ta, .inl (cI, 500, .inl tf))] sz) := by
  refine Met.ofW (cc := b_Mach_nothingIsLeft) (maxL := 1) (ret := (some .boolean)) (by decide) rfl ?_
  intro p e s m args below meth c s₁ B hml hv
  obtain ⟨rfl, hsz, hP, hK, hD0, hE⟩ := hv
  have hx := B.exec
  have hb := B.bytes
  have hr := B.returns
  have hts := atoms_spec (ws := w_Mach_nothingIsLeft) B.pre
  have hT : ∀ w ∈ TB, w.before _ s = true := fun w h => hts w (List.mem_cons_of_mem _ h)
  have hown : s.vm.findClass "ColonMachine" = some m.cls := findClass_of_methodNamed B.named
  have hlocks := B.notSynchronized
  subst hsz
  have hD := hD0.self (sz := s.heap.size)
  generalize hAe : va_A [(hm, .inr (10, [.ref dd, .ref rr, .ref kc, .ref mm, .ref oo, .ref tt, .ref ww, .ref kk, .ref pp, .int lc])), (kc, .inr (0, [.ref ko, .ref kp, .ref kr, .ref kd, .int cn])), (tt, .inr (7, [.ref ta, .int tb, .int te, .int tw, .int tx])), (ta, .inl (cI, 500, .inl tf))] s.heap.size = A at hD hE ⊢
  have hA : ∀ q : Nat, s.heap.size ≤ q → A q := fun q h => by rw [← hAe]; exact Or.inr h
  have hS : va_S A s.heap s.heap [] := va_S.rf
  have hl := lv_entry [.ref hm] (n := 1) (Nat.le_of_ble_eq_true rfl)
  rw [lg_entry_eq]
  generalize (lg_sl [.ref hm] ++ List.replicate (1 - (lg_sl [.ref hm]).length) Slot.unset).toArray = ls at hl ⊢
  have hl : lv_has ls 1 [(0, .ref hm)] := hl
  have hF := F_Mach_nothingIsLeft_e cn tb te tf
  refine lv_aload_n hx hb d_Mach_nothingIsLeft_0 rfl (lv_at hl 0 rfl) ?_
  refine va_get (D := D) (v := .ref kc) (C := "ColonMachine") (T := T_Mach) (N := 10) hx hb hT i_Mach hown hK hP 0 rfl rfl 2 (by decide) (hT _ fl_Mach_24) (fun _ h9 => h9) rfl d_Mach_nothingIsLeft_1 ?_
  refine kN_pi (wr := [(hm, .inr (10, [.ref dd, .ref rr, .ref kc, .ref mm, .ref oo, .ref tt, .ref ww, .ref kk, .ref pp, .int lc])), (tt, .inr (7, [.ref ta, .int tb, .int te, .int tw, .int tx])), (ta, .inl (cI, 500, .inl tf))]) (zV (wc := [(kc, .inr (0, [.ref ko, .ref kp, .ref kr, .ref kd, .int cn]))]) (As := []) (rest := []) (st0 := [.ref kc]) ⟨hx, hb, hml, hown, hT⟩ (c_Calls_isEmpty l D cI cJ cZ cW cT s.heap.size kc ko kp kr kd cn hic) (cwV 0 hT (tbV ml_Mach_108 im_Calls_isEmpty se_Calls_isEmpty in_Calls co_Calls_isEmpty) rfl rfl rfl v_Calls_isEmpty ⟨Nat.le_of_ble_eq_true rfl, Nat.le_of_ble_eq_true rfl⟩) hK hE hP hD hS hA [1] rfl rfl 0 rfl rfl rfl hl.1 rfl (Nat.le_of_ble_eq_true rfl) d_Mach_nothingIsLeft_4 ⟨Nat.le_of_ble_eq_true rfl, Nat.le_of_ble_eq_true rfl⟩) hP hD hS hA [1] [0, 2, 3] rfl rfl rfl (by decide) [0, 3, 1, 2] rfl rfl (fun q1 H locs e1 k1 hP hD hS => ?_)
  have hP : va_P D classes [(hm, .inr (10, [.ref dd, .ref rr, .ref kc, .ref mm, .ref oo, .ref tt, .ref ww, .ref kk, .ref pp, .int lc])), (kc, .inr (0, [.ref ko, .ref kp, .ref kr, .ref kd, .int cn])), (tt, .inr (7, [.ref ta, .int tb, .int te, .int tw, .int tx])), (ta, .inl (cI, 500, .inl tf))] H := hP
  have hD : va_D A [(hm, .inr (10, [.ref dd, .ref rr, .ref kc, .ref mm, .ref oo, .ref tt, .ref ww, .ref kk, .ref pp, .int lc])), (kc, .inr (0, [.ref ko, .ref kp, .ref kr, .ref kd, .int cn])), (tt, .inr (7, [.ref ta, .int tb, .int te, .int tw, .int tx])), (ta, .inl (cI, 500, .inl tf))] := hD
  have hF := hF.trans (bd_e e1)
  refine lv_if_eq (tgt := 24) hx hb d_Mach_nothingIsLeft_7 (by decide) (fun c2 => ?_) (fun c2 => ?_)
  · have hF := hF.trans (if_pos c2)
    refine lv_iconst (v := 0) hx hb d_Mach_nothingIsLeft_24 (by decide) ?_
    exact W.zret (v := 0) hx hb hr rfl (fun t ht hW => ⟨⟨_, _, rfl, ⟨hF.symm, ⟨hit, (by have := ti_lo cn; have := ti_hi cn; have := ti_lo tb; have := ti_hi tb; have := ti_lo te; have := ti_hi te; have := ti_lo tw; have := ti_hi tw; have := ti_lo tx; have := ti_hi tx; have := ti_lo q1; have := ti_hi q1; have t0 : Int32.toInt 0 = 0 := rfl; have t1 : Int32.toInt 1 = 1 := rfl; (try simp only [true_or, or_true, true_and, and_true, z_tn, CellsOk, CallsOk, TextOk, MemOk, OutOk, Int32.lt_iff_toInt_lt, Int32.le_iff_toInt_le, ← Int32.toInt_inj, Int32.toInt_add, Int32.toInt_sub, Int32.toInt_mul, Int32.toInt_neg, zbm, zbm', t0, t1] at c2 hic hit k1 ⊢) <;> omega), (Or.inl rfl)⟩⟩, ⟨by rw [ht]; exact hP, va_K.moved hW.alike hK, hD⟩⟩, hS.F ht⟩) hS.2.2 d_Mach_nothingIsLeft_25
  · have hF := hF.trans (if_neg c2)
    refine lv_aload_n hx hb d_Mach_nothingIsLeft_10 rfl (lv_at hl 0 rfl) ?_
    refine va_get (D := D) (v := .ref tt) (C := "ColonMachine") (T := T_Mach) (N := 10) hx hb hT i_Mach hown hK hP 0 rfl rfl 5 (by decide) (hT _ fl_Mach_45) (fun _ h9 => h9) rfl d_Mach_nothingIsLeft_11 ?_
    refine kN_si (wr := [(hm, .inr (10, [.ref dd, .ref rr, .ref kc, .ref mm, .ref oo, .ref tt, .ref ww, .ref kk, .ref pp, .int lc])), (kc, .inr (0, [.ref ko, .ref kp, .ref kr, .ref kd, .int cn]))]) (fun u : Int32 => [(hm, .inr (10, [.ref dd, .ref rr, .ref kc, .ref mm, .ref oo, .ref tt, .ref ww, .ref kk, .ref pp, .int lc])), (kc, .inr (0, [.ref ko, .ref kp, .ref kr, .ref kd, .int cn])), (tt, .inr (7, [.ref ta, .int u, .int te, .int tw, .int tx])), (ta, .inl (cI, 500, .inl tf))]) (zV (wc := [(tt, .inr (7, [.ref ta, .int tb, .int te, .int tw, .int tx])), (ta, .inl (cI, 500, .inl tf))]) (As := []) (rest := []) (st0 := [.ref tt]) ⟨hx, hb, hml, hown, hT⟩ (c_Text_hasMore l D cI cJ cZ cW cT H.size tt ta tb te tw tx tf hit) (cwV 0 hT (tbV ml_Mach_166 im_Text_hasMore se_Text_hasMore in_Text co_Text_hasMore) rfl rfl rfl v_Text_hasMore ⟨Nat.le_of_ble_eq_true rfl, Nat.le_of_ble_eq_true rfl⟩) hK hE hP hD hS hA [2, 3] rfl rfl 0 rfl rfl rfl hl.1 rfl (Nat.le_of_ble_eq_true rfl) d_Mach_nothingIsLeft_14 ⟨Nat.le_of_ble_eq_true rfl, Nat.le_of_ble_eq_true rfl⟩) hP hD hS hA [2, 3] [0, 1] rfl rfl rfl (by decide) [0, 1, 2, 3] rfl (fun u => rfl) (fun q3 H locs e3 k3 hP hD hS => ?_)
    have hP : va_P D classes [(hm, .inr (10, [.ref dd, .ref rr, .ref kc, .ref mm, .ref oo, .ref tt, .ref ww, .ref kk, .ref pp, .int lc])), (kc, .inr (0, [.ref ko, .ref kp, .ref kr, .ref kd, .int cn])), (tt, .inr (7, [.ref ta, .int q3.2, .int te, .int tw, .int tx])), (ta, .inl (cI, 500, .inl tf))] H := hP
    have hD : va_D A [(hm, .inr (10, [.ref dd, .ref rr, .ref kc, .ref mm, .ref oo, .ref tt, .ref ww, .ref kk, .ref pp, .int lc])), (kc, .inr (0, [.ref ko, .ref kp, .ref kr, .ref kd, .int cn])), (tt, .inr (7, [.ref ta, .int q3.2, .int te, .int tw, .int tx])), (ta, .inl (cI, 500, .inl tf))] := hD
    have hF := hF.trans (bd_e e3)
    refine lv_if_ne (tgt := 24) hx hb d_Mach_nothingIsLeft_17 (by decide) (fun c4 => ?_) (fun c4 => ?_)
    · have hF := hF.trans (if_neg c4)
      refine lv_iconst (v := 0) hx hb d_Mach_nothingIsLeft_24 (by decide) ?_
      exact W.zret (v := 0) hx hb hr rfl (fun t ht hW => ⟨⟨_, _, rfl, ⟨hF.symm, ⟨k3.1, (by have := ti_lo cn; have := ti_hi cn; have := ti_lo tb; have := ti_hi tb; have := ti_lo te; have := ti_hi te; have := ti_lo tw; have := ti_hi tw; have := ti_lo tx; have := ti_hi tx; have := ti_lo q1; have := ti_hi q1; have := ti_lo q3.1; have := ti_hi q3.1; have t0 : Int32.toInt 0 = 0 := rfl; have t1 : Int32.toInt 1 = 1 := rfl; (try simp only [true_or, or_true, true_and, and_true, z_tn, CellsOk, CallsOk, TextOk, MemOk, OutOk, Int32.lt_iff_toInt_lt, Int32.le_iff_toInt_le, ← Int32.toInt_inj, Int32.toInt_add, Int32.toInt_sub, Int32.toInt_mul, Int32.toInt_neg, zbm, zbm', t0, t1] at c2 c4 hic hit k1 k3 ⊢) <;> omega), (Or.inl rfl)⟩⟩, ⟨by rw [ht]; exact hP, va_K.moved hW.alike hK, hD⟩⟩, hS.F ht⟩) hS.2.2 d_Mach_nothingIsLeft_25
    · have hF := hF.trans (if_pos c4)
      refine lv_iconst (v := 1) hx hb d_Mach_nothingIsLeft_20 (by decide) ?_
      refine lv_goto (tgt := 25) hx hb d_Mach_nothingIsLeft_21 (by decide) ?_
      exact W.zret (v := 1) hx hb hr rfl (fun t ht hW => ⟨⟨_, _, rfl, ⟨hF.symm, ⟨k3.1, (by have := ti_lo cn; have := ti_hi cn; have := ti_lo tb; have := ti_hi tb; have := ti_lo te; have := ti_hi te; have := ti_lo tw; have := ti_hi tw; have := ti_lo tx; have := ti_hi tx; have := ti_lo q1; have := ti_hi q1; have := ti_lo q3.1; have := ti_hi q3.1; have t1 : Int32.toInt 1 = 1 := rfl; have t0 : Int32.toInt 0 = 0 := rfl; (try simp only [true_or, or_true, true_and, and_true, z_tn, CellsOk, CallsOk, TextOk, MemOk, OutOk, Int32.lt_iff_toInt_lt, Int32.le_iff_toInt_le, ← Int32.toInt_inj, Int32.toInt_add, Int32.toInt_sub, Int32.toInt_mul, Int32.toInt_neg, zbm, zbm', t1, t0] at c2 c4 hic hit k1 k3 ⊢) <;> omega), (Or.inr rfl)⟩⟩, ⟨by rw [ht]; exact hP, va_K.moved hW.alike hK, hD⟩⟩, hS.F ht⟩) hS.2.2 d_Mach_nothingIsLeft_25
/-- the picture of ColonMachine.told -/
def F_Mach_told (dn : Int32) (rn : Int32) (cn : Int32) (he : Int32) (fb : Nat → Int32) (wn : Int32) (kq : Int32) (x1 : Int32) : Int32 := if x1 = 0 then (bd (F_Cells_size dn) (fun q2 => q2)) else (if x1 = 1 then (bd (F_Cells_size rn) (fun q4 => q4)) else (if x1 = 2 then (bd (F_Calls_size cn) (fun q6 => q6)) else (if x1 = 3 then (bd (F_Words_size wn) (fun q8 => q8)) else (if x1 = 4 then (bd (F_Memory_here he) (fun q10 => q10)) else (if x1 = 5 then (bd (F_Memory_blocks fb) (fun q12 => q12)) else (if x1 = 6 then (bd (F_Memory_cellsInBlocks fb) (fun q14 => q14)) else (if x1 = 7 then (bd (F_Compiler_isCompiling kq) (fun q16 => if q16 = 0 then 0 else 1)) else (-1))))))))
theorem F_Mach_told_e (dn : Int32) (rn : Int32) (cn : Int32) (he : Int32) (fb : Nat → Int32) (wn : Int32) (kq : Int32) (x1 : Int32) : F_Mach_told dn rn cn he fb wn kq x1 = if x1 = 0 then (bd (F_Cells_size dn) (fun q2 => q2)) else (if x1 = 1 then (bd (F_Cells_size rn) (fun q4 => q4)) else (if x1 = 2 then (bd (F_Calls_size cn) (fun q6 => q6)) else (if x1 = 3 then (bd (F_Words_size wn) (fun q8 => q8)) else (if x1 = 4 then (bd (F_Memory_here he) (fun q10 => q10)) else (if x1 = 5 then (bd (F_Memory_blocks fb) (fun q12 => q12)) else (if x1 = 6 then (bd (F_Memory_cellsInBlocks fb) (fun q14 => q14)) else (if x1 = 7 then (bd (F_Compiler_isCompiling kq) (fun q16 => if q16 = 0 then 0 else 1)) else (-1)))))))) := rfl
set_option maxHeartbeats 4000000 in
set_option maxRecDepth 100000 in
theorem c_Mach_told (l : Launch) (D : va_G) (cI cJ cZ cW cT : ClassId) (sz : Nat) (hm : Nat) (dd : Nat) (rr : Nat) (kc : Nat) (mm : Nat) (oo : Nat) (tt : Nat) (ww : Nat) (kk : Nat) (pp : Nat) (da : Nat) (ra : Nat) (ko : Nat) (kp : Nat) (kr : Nat) (kd : Nat) (ma : Nat) (mb : Nat) (wv : Nat) (ki : Nat) (kx1 : Nat) (kx2 : Nat) (lc : Int32) (dn : Int32) (rn : Int32) (cn : Int32) (he : Int32) (fb : Nat → Int32) (wn : Int32) (ks : Int32) (kq : Int32) (kn : Int64) (x1 : Int32) (hid : CellsOk 64 dn) (hir : CellsOk 64 rn) (hic : CallsOk cn) (him : MemOk he) (hz : kq = 0 ∨ kq = 1) : Met l y_Mach_told w_Mach_told ({ frames := 1, cells := 0, slots := 0, locals := 22 }) (va_Pc [.ref hm, .int x1] (zP D classes (TY cI cJ cZ cW cT) [(hm, .inr (10, [.ref dd, .ref rr, .ref kc, .ref mm, .ref oo, .ref tt, .ref ww, .ref kk, .ref pp, .int lc])), (dd, .inr (1, [.ref da, .int dn])), (rr, .inr (1, [.ref ra, .int rn])), (kc, .inr (0, [.ref ko, .ref kp, .ref kr, .ref kd, .int cn])), (mm, .inr (4, [.ref ma, .ref mb, .int he])), (mb, .inl (cI, 600, .inl fb)), (ww, .inr (9, [.ref wv, .int wn])), (kk, .inr (2, [.ref tt, .ref ww, .ref mm, .ref oo, .ref ki, .int ks, .int kq, .long kn, .ref kx1, .ref kx2]))] sz)) (va_Qi (fun (r : Int32) (_ : Unit) => r = F_Mach_told dn rn cn he fb wn kq x1 ∧ (True)) (fun _ => zB D classes (TY cI cJ cZ cW cT) (va_A [(hm, .inr (10, [.ref dd, .ref rr, .ref kc, .ref mm, .ref oo, .ref tt, .ref ww, .ref kk, .ref pp, .int lc])), (dd, .inr (1, [.ref da, .int dn])), (rr, .inr (1, [.ref ra, .int rn])), (kc, .inr (0, [.ref ko, .ref kp, .ref kr, .ref kd, .int cn])), (mm, .inr (4, [.ref ma, .ref mb, .int he])), (mb, .inl (cI, 600, .inl fb)), (ww, .inr (9, [.ref wv, .int wn])), (kk, .inr (2, [.ref tt, .ref ww, .ref mm, .ref oo, .ref ki, .int ks, .int kq, .long kn, .ref kx1, .ref kx2]))] sz) [(hm, .inr (10, [.ref dd, .ref rr, .ref kc, .ref mm, .ref oo, .ref tt, .ref ww, .ref kk, .ref pp, .int lc])), (dd, .inr (1, [.ref da, .int dn])), (rr, .inr (1, [.ref ra, .int rn])), (kc, .inr (0, [.ref ko, .ref kp, .ref kr, .ref kd, .int cn])), (mm, .inr (4, [.ref ma, .ref mb, .int he])), (mb, .inl (cI, 600, .inl fb)), (ww, .inr (9, [.ref wv, .int wn])), (kk, .inr (2, [.ref tt, .ref ww, .ref mm, .ref oo, .ref ki, .int ks, .int kq, .long kn, .ref kx1, .ref kx2]))]) (va_A [(hm, .inr (10, [.ref dd, .ref rr, .ref kc, .ref mm, .ref oo, .ref tt, .ref ww, .ref kk, .ref pp, .int lc])), (dd, .inr (1, [.ref da, .int dn])), (rr, .inr (1, [.ref ra, .int rn])), (kc, .inr (0, [.ref ko, .ref kp, .ref kr, .ref kd, .int cn])), (mm, .inr (4, [.ref ma, .ref mb, .int he])), (mb, .inl (cI, 600, .inl fb)), (ww, .inr (9, [.ref wv, .int wn])), (kk, .inr (2, [.ref tt, .ref ww, .ref mm, .ref oo, .ref ki, .int ks, .int kq, .long kn, .ref kx1, .ref kx2]))] sz)) 0 0 (va_A [(hm, .inr (10, [.ref dd, .ref rr, .ref kc, .ref mm, .ref oo, .ref tt, .ref ww, .ref kk, .ref pp, .int lc])), (dd, .inr (1, [.ref da, .int dn])), (rr, .inr (1, [.ref ra, .int rn])), (kc, .inr (0, [.ref ko, .ref kp, .ref kr, .ref kd, .int cn])), (mm, .inr (4, [.ref ma, .ref mb, .int he])), (mb, .inl (cI, 600, .inl fb)), (ww, .inr (9, [.ref wv, .int wn])), (kk, .inr (2, [.ref tt, .ref ww, .ref mm, .ref oo, .ref ki, .int ks, .int kq, .long kn, .ref kx1, .ref kx2]))] sz) := by
  refine Met.ofW (cc := b_Mach_told) (maxL := 2) (ret := (some .int)) (by decide) rfl ?_
  intro p e s m args below meth c s₁ B hml hv
  obtain ⟨rfl, hsz, hP, hK, hD0, hE⟩ := hv
  have hx := B.exec
  have hb := B.bytes
  have hr := B.returns
  have hts := atoms_spec (ws := w_Mach_told) B.pre
  have hT : ∀ w ∈ TB, w.before _ s = true := fun w h => hts w (List.mem_cons_of_mem _ h)
  have hown : s.vm.findClass "ColonMachine" = some m.cls := findClass_of_methodNamed B.named
  have hlocks := B.notSynchronized
  subst hsz
  have hD := hD0.self (sz := s.heap.size)
  generalize hAe : va_A [(hm, .inr (10, [.ref dd, .ref rr, .ref kc, .ref mm, .ref oo, .ref tt, .ref ww, .ref kk, .ref pp, .int lc])), (dd, .inr (1, [.ref da, .int dn])), (rr, .inr (1, [.ref ra, .int rn])), (kc, .inr (0, [.ref ko, .ref kp, .ref kr, .ref kd, .int cn])), (mm, .inr (4, [.ref ma, .ref mb, .int he])), (mb, .inl (cI, 600, .inl fb)), (ww, .inr (9, [.ref wv, .int wn])), (kk, .inr (2, [.ref tt, .ref ww, .ref mm, .ref oo, .ref ki, .int ks, .int kq, .long kn, .ref kx1, .ref kx2]))] s.heap.size = A at hD hE ⊢
  have hA : ∀ q : Nat, s.heap.size ≤ q → A q := fun q h => by rw [← hAe]; exact Or.inr h
  have hS : va_S A s.heap s.heap [] := va_S.rf
  have hl := lv_entry [.ref hm, .int x1] (n := 2) (Nat.le_of_ble_eq_true rfl)
  rw [lg_entry_eq]
  generalize (lg_sl [.ref hm, .int x1] ++ List.replicate (2 - (lg_sl [.ref hm, .int x1]).length) Slot.unset).toArray = ls at hl ⊢
  have hl : lv_has ls 2 [(0, .ref hm), (1, .int x1)] := hl
  have hF := F_Mach_told_e dn rn cn he fb wn kq x1
  refine lv_iload_n hx hb d_Mach_told_0 rfl (lv_at hl 1 rfl) ?_
  by_cases c1 : x1 = 0
  · have hF := hF.trans (if_pos c1)
    refine lv_tableIn (off := 47) (tgt := 48) hx hb d_Mach_told_1 (by rw [c1]; decide) (by rw [c1]; decide) (by rw [c1]; decide) (by decide) ?_
    refine lv_aload_n hx hb d_Mach_told_48 rfl (lv_at hl 0 rfl) ?_
    refine va_get (D := D) (v := .ref dd) (C := "ColonMachine") (T := T_Mach) (N := 10) hx hb hT i_Mach hown hK hP 0 rfl rfl 0 (by decide) (hT _ fl_Mach_14) (fun _ h9 => h9) rfl d_Mach_told_49 ?_
    refine kN_pi (wr := [(hm, .inr (10, [.ref dd, .ref rr, .ref kc, .ref mm, .ref oo, .ref tt, .ref ww, .ref kk, .ref pp, .int lc])), (rr, .inr (1, [.ref ra, .int rn])), (kc, .inr (0, [.ref ko, .ref kp, .ref kr, .ref kd, .int cn])), (mm, .inr (4, [.ref ma, .ref mb, .int he])), (mb, .inl (cI, 600, .inl fb)), (ww, .inr (9, [.ref wv, .int wn])), (kk, .inr (2, [.ref tt, .ref ww, .ref mm, .ref oo, .ref ki, .int ks, .int kq, .long kn, .ref kx1, .ref kx2]))]) (zV (wc := [(dd, .inr (1, [.ref da, .int dn]))]) (As := []) (rest := []) (st0 := [.ref dd]) ⟨hx, hb, hml, hown, hT⟩ (c_Cells_size l D cI cJ cZ cW cT s.heap.size dd da 64 dn hid) (cwV 0 hT (tbV ml_Mach_120 im_Cells_size se_Cells_size in_Cells co_Cells_size) rfl rfl rfl v_Cells_size ⟨Nat.le_of_ble_eq_true rfl, Nat.le_of_ble_eq_true rfl⟩) hK hE hP hD hS hA [1] rfl rfl 0 rfl rfl rfl hl.1 rfl (Nat.le_of_ble_eq_true rfl) d_Mach_told_52 ⟨Nat.le_of_ble_eq_true rfl, Nat.le_of_ble_eq_true rfl⟩) hP hD hS hA [1] [0, 2, 3, 4, 5, 6, 7] rfl rfl rfl (by decide) [0, 7, 1, 2, 3, 4, 5, 6] rfl rfl (fun q2 H locs e2 k2 hP hD hS => ?_)
    have hP : va_P D classes [(hm, .inr (10, [.ref dd, .ref rr, .ref kc, .ref mm, .ref oo, .ref tt, .ref ww, .ref kk, .ref pp, .int lc])), (dd, .inr (1, [.ref da, .int dn])), (rr, .inr (1, [.ref ra, .int rn])), (kc, .inr (0, [.ref ko, .ref kp, .ref kr, .ref kd, .int cn])), (mm, .inr (4, [.ref ma, .ref mb, .int he])), (mb, .inl (cI, 600, .inl fb)), (ww, .inr (9, [.ref wv, .int wn])), (kk, .inr (2, [.ref tt, .ref ww, .ref mm, .ref oo, .ref ki, .int ks, .int kq, .long kn, .ref kx1, .ref kx2]))] H := hP
    have hD : va_D A [(hm, .inr (10, [.ref dd, .ref rr, .ref kc, .ref mm, .ref oo, .ref tt, .ref ww, .ref kk, .ref pp, .int lc])), (dd, .inr (1, [.ref da, .int dn])), (rr, .inr (1, [.ref ra, .int rn])), (kc, .inr (0, [.ref ko, .ref kp, .ref kr, .ref kd, .int cn])), (mm, .inr (4, [.ref ma, .ref mb, .int he])), (mb, .inl (cI, 600, .inl fb)), (ww, .inr (9, [.ref wv, .int wn])), (kk, .inr (2, [.ref tt, .ref ww, .ref mm, .ref oo, .ref ki, .int ks, .int kq, .long kn, .ref kx1, .ref kx2]))] := hD
    have hF := hF.trans (bd_e e2)
    exact W.iret (v := q2) hx hb hr (fun t ht hW => ⟨⟨_, (), rfl, ⟨hF.symm, trivial⟩, ⟨by rw [ht]; exact hP, va_K.moved hW.alike hK, hD⟩⟩, hS.F ht⟩) hS.2.2 d_Mach_told_55
  · have hF := hF.trans (if_neg c1)
    by_cases c3 : x1 = 1
    · have hF := hF.trans (if_pos c3)
      refine lv_tableIn (off := 55) (tgt := 56) hx hb d_Mach_told_1 (by rw [c3]; decide) (by rw [c3]; decide) (by rw [c3]; decide) (by decide) ?_
      refine lv_aload_n hx hb d_Mach_told_56 rfl (lv_at hl 0 rfl) ?_
      refine va_get (D := D) (v := .ref rr) (C := "ColonMachine") (T := T_Mach) (N := 10) hx hb hT i_Mach hown hK hP 0 rfl rfl 1 (by decide) (hT _ fl_Mach_18) (fun _ h9 => h9) rfl d_Mach_told_57 ?_
      refine kN_pi (wr := [(hm, .inr (10, [.ref dd, .ref rr, .ref kc, .ref mm, .ref oo, .ref tt, .ref ww, .ref kk, .ref pp, .int lc])), (dd, .inr (1, [.ref da, .int dn])), (kc, .inr (0, [.ref ko, .ref kp, .ref kr, .ref kd, .int cn])), (mm, .inr (4, [.ref ma, .ref mb, .int he])), (mb, .inl (cI, 600, .inl fb)), (ww, .inr (9, [.ref wv, .int wn])), (kk, .inr (2, [.ref tt, .ref ww, .ref mm, .ref oo, .ref ki, .int ks, .int kq, .long kn, .ref kx1, .ref kx2]))]) (zV (wc := [(rr, .inr (1, [.ref ra, .int rn]))]) (As := []) (rest := []) (st0 := [.ref rr]) ⟨hx, hb, hml, hown, hT⟩ (c_Cells_size l D cI cJ cZ cW cT s.heap.size rr ra 64 rn hir) (cwV 0 hT (tbV ml_Mach_120 im_Cells_size se_Cells_size in_Cells co_Cells_size) rfl rfl rfl v_Cells_size ⟨Nat.le_of_ble_eq_true rfl, Nat.le_of_ble_eq_true rfl⟩) hK hE hP hD hS hA [2] rfl rfl 0 rfl rfl rfl hl.1 rfl (Nat.le_of_ble_eq_true rfl) d_Mach_told_60 ⟨Nat.le_of_ble_eq_true rfl, Nat.le_of_ble_eq_true rfl⟩) hP hD hS hA [2] [0, 1, 3, 4, 5, 6, 7] rfl rfl rfl (by decide) [0, 1, 7, 2, 3, 4, 5, 6] rfl rfl (fun q4 H locs e4 k4 hP hD hS => ?_)
      have hP : va_P D classes [(hm, .inr (10, [.ref dd, .ref rr, .ref kc, .ref mm, .ref oo, .ref tt, .ref ww, .ref kk, .ref pp, .int lc])), (dd, .inr (1, [.ref da, .int dn])), (rr, .inr (1, [.ref ra, .int rn])), (kc, .inr (0, [.ref ko, .ref kp, .ref kr, .ref kd, .int cn])), (mm, .inr (4, [.ref ma, .ref mb, .int he])), (mb, .inl (cI, 600, .inl fb)), (ww, .inr (9, [.ref wv, .int wn])), (kk, .inr (2, [.ref tt, .ref ww, .ref mm, .ref oo, .ref ki, .int ks, .int kq, .long kn, .ref kx1, .ref kx2]))] H := hP
      have hD : va_D A [(hm, .inr (10, [.ref dd, .ref rr, .ref kc, .ref mm, .ref oo, .ref tt, .ref ww, .ref kk, .ref pp, .int lc])), (dd, .inr (1, [.ref da, .int dn])), (rr, .inr (1, [.ref ra, .int rn])), (kc, .inr (0, [.ref ko, .ref kp, .ref kr, .ref kd, .int cn])), (mm, .inr (4, [.ref ma, .ref mb, .int he])), (mb, .inl (cI, 600, .inl fb)), (ww, .inr (9, [.ref wv, .int wn])), (kk, .inr (2, [.ref tt, .ref ww, .ref mm, .ref oo, .ref ki, .int ks, .int kq, .long kn, .ref kx1, .ref kx2]))] := hD
      have hF := hF.trans (bd_e e4)
      exact W.iret (v := q4) hx hb hr (fun t ht hW => ⟨⟨_, (), rfl, ⟨hF.symm, trivial⟩, ⟨by rw [ht]; exact hP, va_K.moved hW.alike hK, hD⟩⟩, hS.F ht⟩) hS.2.2 d_Mach_told_63
    · have hF := hF.trans (if_neg c3)
      by_cases c5 : x1 = 2
      · have hF := hF.trans (if_pos c5)
        refine lv_tableIn (off := 63) (tgt := 64) hx hb d_Mach_told_1 (by rw [c5]; decide) (by rw [c5]; decide) (by rw [c5]; decide) (by decide) ?_
        refine lv_aload_n hx hb d_Mach_told_64 rfl (lv_at hl 0 rfl) ?_
        refine va_get (D := D) (v := .ref kc) (C := "ColonMachine") (T := T_Mach) (N := 10) hx hb hT i_Mach hown hK hP 0 rfl rfl 2 (by decide) (hT _ fl_Mach_24) (fun _ h9 => h9) rfl d_Mach_told_65 ?_
        refine kN_pi (wr := [(hm, .inr (10, [.ref dd, .ref rr, .ref kc, .ref mm, .ref oo, .ref tt, .ref ww, .ref kk, .ref pp, .int lc])), (dd, .inr (1, [.ref da, .int dn])), (rr, .inr (1, [.ref ra, .int rn])), (mm, .inr (4, [.ref ma, .ref mb, .int he])), (mb, .inl (cI, 600, .inl fb)), (ww, .inr (9, [.ref wv, .int wn])), (kk, .inr (2, [.ref tt, .ref ww, .ref mm, .ref oo, .ref ki, .int ks, .int kq, .long kn, .ref kx1, .ref kx2]))]) (zV (wc := [(kc, .inr (0, [.ref ko, .ref kp, .ref kr, .ref kd, .int cn]))]) (As := []) (rest := []) (st0 := [.ref kc]) ⟨hx, hb, hml, hown, hT⟩ (c_Calls_size l D cI cJ cZ cW cT s.heap.size kc ko kp kr kd cn hic) (cwV 0 hT (tbV ml_Mach_144 im_Calls_size se_Calls_size in_Calls co_Calls_size) rfl rfl rfl v_Calls_size ⟨Nat.le_of_ble_eq_true rfl, Nat.le_of_ble_eq_true rfl⟩) hK hE hP hD hS hA [3] rfl rfl 0 rfl rfl rfl hl.1 rfl (Nat.le_of_ble_eq_true rfl) d_Mach_told_68 ⟨Nat.le_of_ble_eq_true rfl, Nat.le_of_ble_eq_true rfl⟩) hP hD hS hA [3] [0, 1, 2, 4, 5, 6, 7] rfl rfl rfl (by decide) [0, 1, 2, 7, 3, 4, 5, 6] rfl rfl (fun q6 H locs e6 k6 hP hD hS => ?_)
        have hP : va_P D classes [(hm, .inr (10, [.ref dd, .ref rr, .ref kc, .ref mm, .ref oo, .ref tt, .ref ww, .ref kk, .ref pp, .int lc])), (dd, .inr (1, [.ref da, .int dn])), (rr, .inr (1, [.ref ra, .int rn])), (kc, .inr (0, [.ref ko, .ref kp, .ref kr, .ref kd, .int cn])), (mm, .inr (4, [.ref ma, .ref mb, .int he])), (mb, .inl (cI, 600, .inl fb)), (ww, .inr (9, [.ref wv, .int wn])), (kk, .inr (2, [.ref tt, .ref ww, .ref mm, .ref oo, .ref ki, .int ks, .int kq, .long kn, .ref kx1, .ref kx2]))] H := hP
        have hD : va_D A [(hm, .inr (10, [.ref dd, .ref rr, .ref kc, .ref mm, .ref oo, .ref tt, .ref ww, .ref kk, .ref pp, .int lc])), (dd, .inr (1, [.ref da, .int dn])), (rr, .inr (1, [.ref ra, .int rn])), (kc, .inr (0, [.ref ko, .ref kp, .ref kr, .ref kd, .int cn])), (mm, .inr (4, [.ref ma, .ref mb, .int he])), (mb, .inl (cI, 600, .inl fb)), (ww, .inr (9, [.ref wv, .int wn])), (kk, .inr (2, [.ref tt, .ref ww, .ref mm, .ref oo, .ref ki, .int ks, .int kq, .long kn, .ref kx1, .ref kx2]))] := hD
        have hF := hF.trans (bd_e e6)
        exact W.iret (v := q6) hx hb hr (fun t ht hW => ⟨⟨_, (), rfl, ⟨hF.symm, trivial⟩, ⟨by rw [ht]; exact hP, va_K.moved hW.alike hK, hD⟩⟩, hS.F ht⟩) hS.2.2 d_Mach_told_71
      · have hF := hF.trans (if_neg c5)
        by_cases c7 : x1 = 3
        · have hF := hF.trans (if_pos c7)
          refine lv_tableIn (off := 71) (tgt := 72) hx hb d_Mach_told_1 (by rw [c7]; decide) (by rw [c7]; decide) (by rw [c7]; decide) (by decide) ?_
          refine lv_aload_n hx hb d_Mach_told_72 rfl (lv_at hl 0 rfl) ?_
          refine va_get (D := D) (v := .ref ww) (C := "ColonMachine") (T := T_Mach) (N := 10) hx hb hT i_Mach hown hK hP 0 rfl rfl 6 (by decide) (hT _ fl_Mach_52) (fun _ h9 => h9) rfl d_Mach_told_73 ?_
          refine kN_pi (wr := [(hm, .inr (10, [.ref dd, .ref rr, .ref kc, .ref mm, .ref oo, .ref tt, .ref ww, .ref kk, .ref pp, .int lc])), (dd, .inr (1, [.ref da, .int dn])), (rr, .inr (1, [.ref ra, .int rn])), (kc, .inr (0, [.ref ko, .ref kp, .ref kr, .ref kd, .int cn])), (mm, .inr (4, [.ref ma, .ref mb, .int he])), (mb, .inl (cI, 600, .inl fb)), (kk, .inr (2, [.ref tt, .ref ww, .ref mm, .ref oo, .ref ki, .int ks, .int kq, .long kn, .ref kx1, .ref kx2]))]) (zV (wc := [(ww, .inr (9, [.ref wv, .int wn]))]) (As := []) (rest := []) (st0 := [.ref ww]) ⟨hx, hb, hml, hown, hT⟩ (c_Words_size l D cI cJ cZ cW cT s.heap.size ww wv wn) (cwV 0 hT (tbV ml_Mach_145 im_Words_size se_Words_size in_Words co_Words_size) rfl rfl rfl v_Words_size ⟨Nat.le_of_ble_eq_true rfl, Nat.le_of_ble_eq_true rfl⟩) hK hE hP hD hS hA [6] rfl rfl 0 rfl rfl rfl hl.1 rfl (Nat.le_of_ble_eq_true rfl) d_Mach_told_76 ⟨Nat.le_of_ble_eq_true rfl, Nat.le_of_ble_eq_true rfl⟩) hP hD hS hA [6] [0, 1, 2, 3, 4, 5, 7] rfl rfl rfl (by decide) [0, 1, 2, 3, 4, 5, 7, 6] rfl rfl (fun q8 H locs e8 k8 hP hD hS => ?_)
          have hP : va_P D classes [(hm, .inr (10, [.ref dd, .ref rr, .ref kc, .ref mm, .ref oo, .ref tt, .ref ww, .ref kk, .ref pp, .int lc])), (dd, .inr (1, [.ref da, .int dn])), (rr, .inr (1, [.ref ra, .int rn])), (kc, .inr (0, [.ref ko, .ref kp, .ref kr, .ref kd, .int cn])), (mm, .inr (4, [.ref ma, .ref mb, .int he])), (mb, .inl (cI, 600, .inl fb)), (ww, .inr (9, [.ref wv, .int wn])), (kk, .inr (2, [.ref tt, .ref ww, .ref mm, .ref oo, .ref ki, .int ks, .int kq, .long kn, .ref kx1, .ref kx2]))] H := hP
          have hD : va_D A [(hm, .inr (10, [.ref dd, .ref rr, .ref kc, .ref mm, .ref oo, .ref tt, .ref ww, .ref kk, .ref pp, .int lc])), (dd, .inr (1, [.ref da, .int dn])), (rr, .inr (1, [.ref ra, .int rn])), (kc, .inr (0, [.ref ko, .ref kp, .ref kr, .ref kd, .int cn])), (mm, .inr (4, [.ref ma, .ref mb, .int he])), (mb, .inl (cI, 600, .inl fb)), (ww, .inr (9, [.ref wv, .int wn])), (kk, .inr (2, [.ref tt, .ref ww, .ref mm, .ref oo, .ref ki, .int ks, .int kq, .long kn, .ref kx1, .ref kx2]))] := hD
          have hF := hF.trans (bd_e e8)
          exact W.iret (v := q8) hx hb hr (fun t ht hW => ⟨⟨_, (), rfl, ⟨hF.symm, trivial⟩, ⟨by rw [ht]; exact hP, va_K.moved hW.alike hK, hD⟩⟩, hS.F ht⟩) hS.2.2 d_Mach_told_79
        · have hF := hF.trans (if_neg c7)
          by_cases c9 : x1 = 4
          · have hF := hF.trans (if_pos c9)
            refine lv_tableIn (off := 79) (tgt := 80) hx hb d_Mach_told_1 (by rw [c9]; decide) (by rw [c9]; decide) (by rw [c9]; decide) (by decide) ?_
            refine lv_aload_n hx hb d_Mach_told_80 rfl (lv_at hl 0 rfl) ?_
            refine va_get (D := D) (v := .ref mm) (C := "ColonMachine") (T := T_Mach) (N := 10) hx hb hT i_Mach hown hK hP 0 rfl rfl 3 (by decide) (hT _ fl_Mach_31) (fun _ h9 => h9) rfl d_Mach_told_81 ?_
            refine kN_pi (wr := [(hm, .inr (10, [.ref dd, .ref rr, .ref kc, .ref mm, .ref oo, .ref tt, .ref ww, .ref kk, .ref pp, .int lc])), (dd, .inr (1, [.ref da, .int dn])), (rr, .inr (1, [.ref ra, .int rn])), (kc, .inr (0, [.ref ko, .ref kp, .ref kr, .ref kd, .int cn])), (mb, .inl (cI, 600, .inl fb)), (ww, .inr (9, [.ref wv, .int wn])), (kk, .inr (2, [.ref tt, .ref ww, .ref mm, .ref oo, .ref ki, .int ks, .int kq, .long kn, .ref kx1, .ref kx2]))]) (zV (wc := [(mm, .inr (4, [.ref ma, .ref mb, .int he]))]) (As := []) (rest := []) (st0 := [.ref mm]) ⟨hx, hb, hml, hown, hT⟩ (c_Memory_here l D cI cJ cZ cW cT s.heap.size mm ma mb he him) (cwV 0 hT (tbV ml_Mach_146 im_Memory_here se_Memory_here in_Memory co_Memory_here) rfl rfl rfl v_Memory_here ⟨Nat.le_of_ble_eq_true rfl, Nat.le_of_ble_eq_true rfl⟩) hK hE hP hD hS hA [4] rfl rfl 0 rfl rfl rfl hl.1 rfl (Nat.le_of_ble_eq_true rfl) d_Mach_told_84 ⟨Nat.le_of_ble_eq_true rfl, Nat.le_of_ble_eq_true rfl⟩) hP hD hS hA [4] [0, 1, 2, 3, 5, 6, 7] rfl rfl rfl (by decide) [0, 1, 2, 3, 7, 4, 5, 6] rfl rfl (fun q10 H locs e10 k10 hP hD hS => ?_)
            have hP : va_P D classes [(hm, .inr (10, [.ref dd, .ref rr, .ref kc, .ref mm, .ref oo, .ref tt, .ref ww, .ref kk, .ref pp, .int lc])), (dd, .inr (1, [.ref da, .int dn])), (rr, .inr (1, [.ref ra, .int rn])), (kc, .inr (0, [.ref ko, .ref kp, .ref kr, .ref kd, .int cn])), (mm, .inr (4, [.ref ma, .ref mb, .int he])), (mb, .inl (cI, 600, .inl fb)), (ww, .inr (9, [.ref wv, .int wn])), (kk, .inr (2, [.ref tt, .ref ww, .ref mm, .ref oo, .ref ki, .int ks, .int kq, .long kn, .ref kx1, .ref kx2]))] H := hP
            have hD : va_D A [(hm, .inr (10, [.ref dd, .ref rr, .ref kc, .ref mm, .ref oo, .ref tt, .ref ww, .ref kk, .ref pp, .int lc])), (dd, .inr (1, [.ref da, .int dn])), (rr, .inr (1, [.ref ra, .int rn])), (kc, .inr (0, [.ref ko, .ref kp, .ref kr, .ref kd, .int cn])), (mm, .inr (4, [.ref ma, .ref mb, .int he])), (mb, .inl (cI, 600, .inl fb)), (ww, .inr (9, [.ref wv, .int wn])), (kk, .inr (2, [.ref tt, .ref ww, .ref mm, .ref oo, .ref ki, .int ks, .int kq, .long kn, .ref kx1, .ref kx2]))] := hD
            have hF := hF.trans (bd_e e10)
            exact W.iret (v := q10) hx hb hr (fun t ht hW => ⟨⟨_, (), rfl, ⟨hF.symm, trivial⟩, ⟨by rw [ht]; exact hP, va_K.moved hW.alike hK, hD⟩⟩, hS.F ht⟩) hS.2.2 d_Mach_told_87
          · have hF := hF.trans (if_neg c9)
            by_cases c11 : x1 = 5
            · have hF := hF.trans (if_pos c11)
              refine lv_tableIn (off := 87) (tgt := 88) hx hb d_Mach_told_1 (by rw [c11]; decide) (by rw [c11]; decide) (by rw [c11]; decide) (by decide) ?_
              refine lv_aload_n hx hb d_Mach_told_88 rfl (lv_at hl 0 rfl) ?_
              refine va_get (D := D) (v := .ref mm) (C := "ColonMachine") (T := T_Mach) (N := 10) hx hb hT i_Mach hown hK hP 0 rfl rfl 3 (by decide) (hT _ fl_Mach_31) (fun _ h9 => h9) rfl d_Mach_told_89 ?_
              refine kN_pi (wr := [(hm, .inr (10, [.ref dd, .ref rr, .ref kc, .ref mm, .ref oo, .ref tt, .ref ww, .ref kk, .ref pp, .int lc])), (dd, .inr (1, [.ref da, .int dn])), (rr, .inr (1, [.ref ra, .int rn])), (kc, .inr (0, [.ref ko, .ref kp, .ref kr, .ref kd, .int cn])), (ww, .inr (9, [.ref wv, .int wn])), (kk, .inr (2, [.ref tt, .ref ww, .ref mm, .ref oo, .ref ki, .int ks, .int kq, .long kn, .ref kx1, .ref kx2]))]) (zV (wc := [(mm, .inr (4, [.ref ma, .ref mb, .int he])), (mb, .inl (cI, 600, .inl fb))]) (As := []) (rest := []) (st0 := [.ref mm]) ⟨hx, hb, hml, hown, hT⟩ (c_Memory_blocks l D cI cJ cZ cW cT s.heap.size mm ma mb he fb him) (cwV 0 hT (tbV ml_Mach_149 im_Memory_blocks se_Memory_blocks in_Memory co_Memory_blocks) rfl rfl rfl v_Memory_blocks ⟨Nat.le_of_ble_eq_true rfl, Nat.le_of_ble_eq_true rfl⟩) hK hE hP hD hS hA [4, 5] rfl rfl 0 rfl rfl rfl hl.1 rfl (Nat.le_of_ble_eq_true rfl) d_Mach_told_92 ⟨Nat.le_of_ble_eq_true rfl, Nat.le_of_ble_eq_true rfl⟩) hP hD hS hA [4, 5] [0, 1, 2, 3, 6, 7] rfl rfl rfl (by decide) [0, 1, 2, 3, 6, 7, 4, 5] rfl rfl (fun q12 H locs e12 k12 hP hD hS => ?_)
              have hP : va_P D classes [(hm, .inr (10, [.ref dd, .ref rr, .ref kc, .ref mm, .ref oo, .ref tt, .ref ww, .ref kk, .ref pp, .int lc])), (dd, .inr (1, [.ref da, .int dn])), (rr, .inr (1, [.ref ra, .int rn])), (kc, .inr (0, [.ref ko, .ref kp, .ref kr, .ref kd, .int cn])), (mm, .inr (4, [.ref ma, .ref mb, .int he])), (mb, .inl (cI, 600, .inl fb)), (ww, .inr (9, [.ref wv, .int wn])), (kk, .inr (2, [.ref tt, .ref ww, .ref mm, .ref oo, .ref ki, .int ks, .int kq, .long kn, .ref kx1, .ref kx2]))] H := hP
              have hD : va_D A [(hm, .inr (10, [.ref dd, .ref rr, .ref kc, .ref mm, .ref oo, .ref tt, .ref ww, .ref kk, .ref pp, .int lc])), (dd, .inr (1, [.ref da, .int dn])), (rr, .inr (1, [.ref ra, .int rn])), (kc, .inr (0, [.ref ko, .ref kp, .ref kr, .ref kd, .int cn])), (mm, .inr (4, [.ref ma, .ref mb, .int he])), (mb, .inl (cI, 600, .inl fb)), (ww, .inr (9, [.ref wv, .int wn])), (kk, .inr (2, [.ref tt, .ref ww, .ref mm, .ref oo, .ref ki, .int ks, .int kq, .long kn, .ref kx1, .ref kx2]))] := hD
              have hF := hF.trans (bd_e e12)
              exact W.iret (v := q12) hx hb hr (fun t ht hW => ⟨⟨_, (), rfl, ⟨hF.symm, trivial⟩, ⟨by rw [ht]; exact hP, va_K.moved hW.alike hK, hD⟩⟩, hS.F ht⟩) hS.2.2 d_Mach_told_95
            · have hF := hF.trans (if_neg c11)
              by_cases c13 : x1 = 6
              · have hF := hF.trans (if_pos c13)
                refine lv_tableIn (off := 95) (tgt := 96) hx hb d_Mach_told_1 (by rw [c13]; decide) (by rw [c13]; decide) (by rw [c13]; decide) (by decide) ?_
                refine lv_aload_n hx hb d_Mach_told_96 rfl (lv_at hl 0 rfl) ?_
                refine va_get (D := D) (v := .ref mm) (C := "ColonMachine") (T := T_Mach) (N := 10) hx hb hT i_Mach hown hK hP 0 rfl rfl 3 (by decide) (hT _ fl_Mach_31) (fun _ h9 => h9) rfl d_Mach_told_97 ?_
                refine kN_pi (wr := [(hm, .inr (10, [.ref dd, .ref rr, .ref kc, .ref mm, .ref oo, .ref tt, .ref ww, .ref kk, .ref pp, .int lc])), (dd, .inr (1, [.ref da, .int dn])), (rr, .inr (1, [.ref ra, .int rn])), (kc, .inr (0, [.ref ko, .ref kp, .ref kr, .ref kd, .int cn])), (ww, .inr (9, [.ref wv, .int wn])), (kk, .inr (2, [.ref tt, .ref ww, .ref mm, .ref oo, .ref ki, .int ks, .int kq, .long kn, .ref kx1, .ref kx2]))]) (zV (wc := [(mm, .inr (4, [.ref ma, .ref mb, .int he])), (mb, .inl (cI, 600, .inl fb))]) (As := []) (rest := []) (st0 := [.ref mm]) ⟨hx, hb, hml, hown, hT⟩ (c_Memory_cellsInBlocks l D cI cJ cZ cW cT s.heap.size mm ma mb he fb him) (cwV 0 hT (tbV ml_Mach_152 im_Memory_cellsInBlocks se_Memory_cellsInBlocks in_Memory co_Memory_cellsInBlocks) rfl rfl rfl v_Memory_cellsInBlocks ⟨Nat.le_of_ble_eq_true rfl, Nat.le_of_ble_eq_true rfl⟩) hK hE hP hD hS hA [4, 5] rfl rfl 0 rfl rfl rfl hl.1 rfl (Nat.le_of_ble_eq_true rfl) d_Mach_told_100 ⟨Nat.le_of_ble_eq_true rfl, Nat.le_of_ble_eq_true rfl⟩) hP hD hS hA [4, 5] [0, 1, 2, 3, 6, 7] rfl rfl rfl (by decide) [0, 1, 2, 3, 6, 7, 4, 5] rfl rfl (fun q14 H locs e14 k14 hP hD hS => ?_)
                have hP : va_P D classes [(hm, .inr (10, [.ref dd, .ref rr, .ref kc, .ref mm, .ref oo, .ref tt, .ref ww, .ref kk, .ref pp, .int lc])), (dd, .inr (1, [.ref da, .int dn])), (rr, .inr (1, [.ref ra, .int rn])), (kc, .inr (0, [.ref ko, .ref kp, .ref kr, .ref kd, .int cn])), (mm, .inr (4, [.ref ma, .ref mb, .int he])), (mb, .inl (cI, 600, .inl fb)), (ww, .inr (9, [.ref wv, .int wn])), (kk, .inr (2, [.ref tt, .ref ww, .ref mm, .ref oo, .ref ki, .int ks, .int kq, .long kn, .ref kx1, .ref kx2]))] H := hP
                have hD : va_D A [(hm, .inr (10, [.ref dd, .ref rr, .ref kc, .ref mm, .ref oo, .ref tt, .ref ww, .ref kk, .ref pp, .int lc])), (dd, .inr (1, [.ref da, .int dn])), (rr, .inr (1, [.ref ra, .int rn])), (kc, .inr (0, [.ref ko, .ref kp, .ref kr, .ref kd, .int cn])), (mm, .inr (4, [.ref ma, .ref mb, .int he])), (mb, .inl (cI, 600, .inl fb)), (ww, .inr (9, [.ref wv, .int wn])), (kk, .inr (2, [.ref tt, .ref ww, .ref mm, .ref oo, .ref ki, .int ks, .int kq, .long kn, .ref kx1, .ref kx2]))] := hD
                have hF := hF.trans (bd_e e14)
                exact W.iret (v := q14) hx hb hr (fun t ht hW => ⟨⟨_, (), rfl, ⟨hF.symm, trivial⟩, ⟨by rw [ht]; exact hP, va_K.moved hW.alike hK, hD⟩⟩, hS.F ht⟩) hS.2.2 d_Mach_told_103
              · have hF := hF.trans (if_neg c13)
                by_cases c15 : x1 = 7
                · have hF := hF.trans (if_pos c15)
                  refine lv_tableIn (off := 103) (tgt := 104) hx hb d_Mach_told_1 (by rw [c15]; decide) (by rw [c15]; decide) (by rw [c15]; decide) (by decide) ?_
                  refine lv_aload_n hx hb d_Mach_told_104 rfl (lv_at hl 0 rfl) ?_
                  refine va_get (D := D) (v := .ref kk) (C := "ColonMachine") (T := T_Mach) (N := 10) hx hb hT i_Mach hown hK hP 0 rfl rfl 7 (by decide) (hT _ fl_Mach_61) (fun _ h9 => h9) rfl d_Mach_told_105 ?_
                  refine kN_pi (wr := [(hm, .inr (10, [.ref dd, .ref rr, .ref kc, .ref mm, .ref oo, .ref tt, .ref ww, .ref kk, .ref pp, .int lc])), (dd, .inr (1, [.ref da, .int dn])), (rr, .inr (1, [.ref ra, .int rn])), (kc, .inr (0, [.ref ko, .ref kp, .ref kr, .ref kd, .int cn])), (mm, .inr (4, [.ref ma, .ref mb, .int he])), (mb, .inl (cI, 600, .inl fb)), (ww, .inr (9, [.ref wv, .int wn]))]) (zV (wc := [(kk, .inr (2, [.ref tt, .ref ww, .ref mm, .ref oo, .ref ki, .int ks, .int kq, .long kn, .ref kx1, .ref kx2]))]) (As := []) (rest := []) (st0 := [.ref kk]) ⟨hx, hb, hml, hown, hT⟩ (c_Compiler_isCompiling l D cI cJ cZ cW cT s.heap.size kk tt ww mm oo ki kx1 kx2 ks kq kn hz) (cwV 0 hT (tbV ml_Mach_155 im_Compiler_isCompiling se_Compiler_isCompiling in_Compiler co_Compiler_isCompiling) rfl rfl rfl v_Compiler_isCompiling ⟨Nat.le_of_ble_eq_true rfl, Nat.le_of_ble_eq_true rfl⟩) hK hE hP hD hS hA [7] rfl rfl 0 rfl rfl rfl hl.1 rfl (Nat.le_of_ble_eq_true rfl) d_Mach_told_108 ⟨Nat.le_of_ble_eq_true rfl, Nat.le_of_ble_eq_true rfl⟩) hP hD hS hA [7] [0, 1, 2, 3, 4, 5, 6] rfl rfl rfl (by decide) [0, 1, 2, 3, 4, 5, 6, 7] rfl rfl (fun q16 H locs e16 k16 hP hD hS => ?_)
                  have hP : va_P D classes [(hm, .inr (10, [.ref dd, .ref rr, .ref kc, .ref mm, .ref oo, .ref tt, .ref ww, .ref kk, .ref pp, .int lc])), (dd, .inr (1, [.ref da, .int dn])), (rr, .inr (1, [.ref ra, .int rn])), (kc, .inr (0, [.ref ko, .ref kp, .ref kr, .ref kd, .int cn])), (mm, .inr (4, [.ref ma, .ref mb, .int he])), (mb, .inl (cI, 600, .inl fb)), (ww, .inr (9, [.ref wv, .int wn])), (kk, .inr (2, [.ref tt, .ref ww, .ref mm, .ref oo, .ref ki, .int ks, .int kq, .long kn, .ref kx1, .ref kx2]))] H := hP
                  have hD : va_D A [(hm, .inr (10, [.ref dd, .ref rr, .ref kc, .ref mm, .ref oo, .ref tt, .ref ww, .ref kk, .ref pp, .int lc])), (dd, .inr (1, [.ref da, .int dn])), (rr, .inr (1, [.ref ra, .int rn])), (kc, .inr (0, [.ref ko, .ref kp, .ref kr, .ref kd, .int cn])), (mm, .inr (4, [.ref ma, .ref mb, .int he])), (mb, .inl (cI, 600, .inl fb)), (ww, .inr (9, [.ref wv, .int wn])), (kk, .inr (2, [.ref tt, .ref ww, .ref mm, .ref oo, .ref ki, .int ks, .int kq, .long kn, .ref kx1, .ref kx2]))] := hD
                  have hF := hF.trans (bd_e e16)
                  refine lv_if_eq (tgt := 118) hx hb d_Mach_told_111 (by decide) (fun c17 => ?_) (fun c17 => ?_)
                  · have hF := hF.trans (if_pos c17)
                    refine lv_iconst (v := 0) hx hb d_Mach_told_118 (by decide) ?_
                    exact W.iret (v := 0) hx hb hr (fun t ht hW => ⟨⟨_, (), rfl, ⟨hF.symm, trivial⟩, ⟨by rw [ht]; exact hP, va_K.moved hW.alike hK, hD⟩⟩, hS.F ht⟩) hS.2.2 d_Mach_told_119
                  · have hF := hF.trans (if_neg c17)
                    refine lv_iconst (v := 1) hx hb d_Mach_told_114 (by decide) ?_
                    refine lv_goto (tgt := 119) hx hb d_Mach_told_115 (by decide) ?_
                    exact W.iret (v := 1) hx hb hr (fun t ht hW => ⟨⟨_, (), rfl, ⟨hF.symm, trivial⟩, ⟨by rw [ht]; exact hP, va_K.moved hW.alike hK, hD⟩⟩, hS.F ht⟩) hS.2.2 d_Mach_told_119
                · have hF := hF.trans (if_neg c15)
                  refine lv_tableD (tgt := 120) hx hb [0, 1, 2, 3, 4, 5, 6, 7] d_Mach_told_1 rfl (by decide) (List.forall_mem_cons.2 ⟨lv_neT c1 rfl, List.forall_mem_cons.2 ⟨lv_neT c3 rfl, List.forall_mem_cons.2 ⟨lv_neT c5 rfl, List.forall_mem_cons.2 ⟨lv_neT c7 rfl, List.forall_mem_cons.2 ⟨lv_neT c9 rfl, List.forall_mem_cons.2 ⟨lv_neT c11 rfl, List.forall_mem_cons.2 ⟨lv_neT c13 rfl, List.forall_mem_cons.2 ⟨lv_neT c15 rfl, fun _ h => absurd h List.not_mem_nil⟩⟩⟩⟩⟩⟩⟩⟩) (by decide) ?_
                  refine lv_iconst (v := (-1)) hx hb d_Mach_told_120 (by decide) ?_
                  exact W.iret (v := (-1)) hx hb hr (fun t ht hW => ⟨⟨_, (), rfl, ⟨hF.symm, trivial⟩, ⟨by rw [ht]; exact hP, va_K.moved hW.alike hK, hD⟩⟩, hS.F ht⟩) hS.2.2 d_Mach_told_121
