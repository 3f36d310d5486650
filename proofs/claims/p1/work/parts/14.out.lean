theorem co_Out_size : (Jvm.Cond.code ({ cls := "ColonMachine$Out", name := "size", desc := "()I" } : Jvm.MethodName) prog_7_method_2_code (1 : Nat) (Option.some Jvm.ClassFile.FieldType.int)) ∈ TB := tbI2 _ (List.mem_of_getElem? (i := 44) rfl) rfl
theorem fl_Out_15 : (Jvm.Cond.fieldLink "ColonMachine$Out" (15 : Nat) "ColonMachine$Out" "size" "I") ∈ TB := tbI1 _ (List.mem_of_getElem? (i := 98) rfl) rfl
theorem co_Out_empty : (Jvm.Cond.code ({ cls := "ColonMachine$Out", name := "empty", desc := "()V" } : Jvm.MethodName) prog_7_method_3_code (1 : Nat) (Option.none : Option Jvm.ClassFile.FieldType)) ∈ TB := tbI2 _ (List.mem_of_getElem? (i := 60) rfl) rfl
theorem co_Out_hasRoomFor : (Jvm.Cond.code ({ cls := "ColonMachine$Out", name := "hasRoomFor", desc := "(I)Z" } : Jvm.MethodName) prog_7_method_4_code (2 : Nat) (Option.some Jvm.ClassFile.FieldType.boolean)) ∈ TB := tbI4 _ (List.mem_of_getElem? (i := 191) rfl) rfl
theorem co_Out_eightBytes : (Jvm.Cond.code ({ cls := "ColonMachine$Out", name := "eightBytes", desc := "(I)J" } : Jvm.MethodName) prog_7_method_5_code (6 : Nat) (Option.some Jvm.ClassFile.FieldType.long)) ∈ TB := tbI2 _ (List.mem_of_getElem? (i := 52) rfl) rfl
theorem fl_Out_11 : (Jvm.Cond.fieldLink "ColonMachine$Out" (11 : Nat) "ColonMachine$Out" "bytes" "[I") ∈ TB := tbI1 _ (List.mem_of_getElem? (i := 97) rfl) rfl
theorem co_Out_saidByte : (Jvm.Cond.code ({ cls := "ColonMachine$Out", name := "saidByte", desc := "(I)I" } : Jvm.MethodName) prog_7_method_6_code (2 : Nat) (Option.some Jvm.ClassFile.FieldType.int)) ∈ TB := tbI6 _ (List.mem_of_getElem? (i := 37) rfl) rfl
theorem ml_Out_19 : (Jvm.Cond.methodLink "ColonMachine$Out" (19 : Nat) ({ cls := "ColonMachine$Out", name := "hasRoomFor", desc := "(I)Z" } : Jvm.MethodName)) ∈ TB := tbI4 _ (List.mem_of_getElem? (i := 188) rfl) rfl
theorem im_Out_hasRoomFor : (Jvm.Cond.instanceMethod ({ cls := "ColonMachine$Out", name := "hasRoomFor", desc := "(I)Z" } : Jvm.MethodName)) ∈ TB := tbI4 _ (List.mem_of_getElem? (i := 190) rfl) rfl
theorem se_Out_hasRoomFor : (Jvm.Cond.selects "ColonMachine$Out" ({ cls := "ColonMachine$Out", name := "hasRoomFor", desc := "(I)Z" } : Jvm.MethodName) ({ cls := "ColonMachine$Out", name := "hasRoomFor", desc := "(I)Z" } : Jvm.MethodName)) ∈ TB := tbP _ (List.mem_of_getElem? (i := 12) rfl) rfl
theorem in_Out : (Jvm.Cond.initialized "ColonMachine$Out") ∈ TB := tbI1 _ (List.mem_of_getElem? (i := 5) rfl) rfl
theorem co_Out_digitsOf : (Jvm.Cond.code ({ cls := "ColonMachine$Out", name := "digitsOf", desc := "(JI)I" } : Jvm.MethodName) prog_7_method_9_code (6 : Nat) (Option.some Jvm.ClassFile.FieldType.int)) ∈ TB := tbI6 _ (List.mem_of_getElem? (i := 32) rfl) rfl
theorem co_Out_saidNumber : (Jvm.Cond.code ({ cls := "ColonMachine$Out", name := "saidNumber", desc := "(JI)I" } : Jvm.MethodName) prog_7_method_8_code (10 : Nat) (Option.some Jvm.ClassFile.FieldType.int)) ∈ TB := tbI6 _ (List.mem_of_getElem? (i := 28) rfl) rfl
theorem ml_Out_29 : (Jvm.Cond.methodLink "ColonMachine$Out" (29 : Nat) ({ cls := "ColonMachine$Memory", name := "isBase", desc := "(I)Z" } : Jvm.MethodName)) ∈ TB := tbI6 _ (List.mem_of_getElem? (i := 29) rfl) rfl
theorem sm_Memory_isBase : (Jvm.Cond.static ({ cls := "ColonMachine$Memory", name := "isBase", desc := "(I)Z" } : Jvm.MethodName)) ∈ TB := tbI3 _ (List.mem_of_getElem? (i := 42) rfl) rfl
theorem ml_Out_34 : (Jvm.Cond.methodLink "ColonMachine$Out" (34 : Nat) ({ cls := "ColonMachine$Out", name := "digitsOf", desc := "(JI)I" } : Jvm.MethodName)) ∈ TB := tbI6 _ (List.mem_of_getElem? (i := 30) rfl) rfl
theorem sm_Out_digitsOf : (Jvm.Cond.static ({ cls := "ColonMachine$Out", name := "digitsOf", desc := "(JI)I" } : Jvm.MethodName)) ∈ TB := tbI6 _ (List.mem_of_getElem? (i := 31) rfl) rfl
abbrev b_Out_size : ByteArray := prog_7_method_2_code
def y_Out_size : MethodName := { cls := "ColonMachine$Out", name := "size", desc := "()I" }
abbrev w_Out_size : List Cond := .code y_Out_size b_Out_size 1 (Option.some Jvm.ClassFile.FieldType.int) :: TB
abbrev b_Out_empty : ByteArray := prog_7_method_3_code
def y_Out_empty : MethodName := { cls := "ColonMachine$Out", name := "empty", desc := "()V" }
abbrev w_Out_empty : List Cond := .code y_Out_empty b_Out_empty 1 (Option.none : Option Jvm.ClassFile.FieldType) :: TB
abbrev b_Out_hasRoomFor : ByteArray := prog_7_method_4_code
def y_Out_hasRoomFor : MethodName := { cls := "ColonMachine$Out", name := "hasRoomFor", desc := "(I)Z" }
abbrev w_Out_hasRoomFor : List Cond := .code y_Out_hasRoomFor b_Out_hasRoomFor 2 (Option.some Jvm.ClassFile.FieldType.boolean) :: TB
abbrev b_Out_eightBytes : ByteArray := prog_7_method_5_code
def y_Out_eightBytes : MethodName := { cls := "ColonMachine$Out", name := "eightBytes", desc := "(I)J" }
abbrev w_Out_eightBytes : List Cond := .code y_Out_eightBytes b_Out_eightBytes 6 (Option.some Jvm.ClassFile.FieldType.long) :: TB
abbrev b_Out_saidByte : ByteArray := prog_7_method_6_code
def y_Out_saidByte : MethodName := { cls := "ColonMachine$Out", name := "saidByte", desc := "(I)I" }
abbrev w_Out_saidByte : List Cond := .code y_Out_saidByte b_Out_saidByte 2 (Option.some Jvm.ClassFile.FieldType.int) :: TB
theorem v_Out_hasRoomFor : y_Out_hasRoomFor.cls = "ColonMachine$Out" ∧ y_Out_hasRoomFor.cls ≠ "java/lang/invoke/MethodHandle" ∧ y_Out_hasRoomFor.cls ≠ "java/lang/invoke/VarHandle" ∧ (parseMethodDescriptor y_Out_hasRoomFor.desc).map (fun d => d.parameters.length) = some 1 := by decide +kernel
abbrev b_Out_digitsOf : ByteArray := prog_7_method_9_code
def y_Out_digitsOf : MethodName := { cls := "ColonMachine$Out", name := "digitsOf", desc := "(JI)I" }
abbrev w_Out_digitsOf : List Cond := .code y_Out_digitsOf b_Out_digitsOf 6 (Option.some Jvm.ClassFile.FieldType.int) :: TB
abbrev b_Out_saidNumber : ByteArray := prog_7_method_8_code
def y_Out_saidNumber : MethodName := { cls := "ColonMachine$Out", name := "saidNumber", desc := "(JI)I" }
abbrev w_Out_saidNumber : List Cond := .code y_Out_saidNumber b_Out_saidNumber 10 (Option.some Jvm.ClassFile.FieldType.int) :: TB
theorem vs_Memory_isBase : y_Memory_isBase.cls ≠ "java/lang/invoke/MethodHandle" ∧ y_Memory_isBase.cls ≠ "java/lang/invoke/VarHandle" ∧ (parseMethodDescriptor y_Memory_isBase.desc).map (fun d => d.parameters.length) = some 1 := by decide +kernel
theorem vs_Out_digitsOf : y_Out_digitsOf.cls ≠ "java/lang/invoke/MethodHandle" ∧ y_Out_digitsOf.cls ≠ "java/lang/invoke/VarHandle" ∧ (parseMethodDescriptor y_Out_digitsOf.desc).map (fun d => d.parameters.length) = some 2 := by decide +kernel
theorem d_Out_size_0 : decode b_Out_size 0 = .ok (.aload_n 0, 1) := by decide +kernel
theorem d_Out_size_1 : decode b_Out_size 1 = .ok (.getfield 15, 3) := by decide +kernel
theorem d_Out_size_4 : decode b_Out_size 4 = .ok (.ireturn, 1) := by decide +kernel
theorem d_Out_empty_0 : decode b_Out_empty 0 = .ok (.aload_n 0, 1) := by decide +kernel
theorem d_Out_empty_1 : decode b_Out_empty 1 = .ok (.iconst 0, 1) := by decide +kernel
theorem d_Out_empty_2 : decode b_Out_empty 2 = .ok (.putfield 15, 3) := by decide +kernel
theorem d_Out_empty_5 : decode b_Out_empty 5 = .ok (.return_, 1) := by decide +kernel
theorem d_Out_hasRoomFor_0 : decode b_Out_hasRoomFor 0 = .ok (.iload_n 1, 1) := by decide +kernel
theorem d_Out_hasRoomFor_1 : decode b_Out_hasRoomFor 1 = .ok (.sipush 800, 3) := by decide +kernel
theorem d_Out_hasRoomFor_4 : decode b_Out_hasRoomFor 4 = .ok (.aload_n 0, 1) := by decide +kernel
theorem d_Out_hasRoomFor_5 : decode b_Out_hasRoomFor 5 = .ok (.getfield 15, 3) := by decide +kernel
theorem d_Out_hasRoomFor_8 : decode b_Out_hasRoomFor 8 = .ok (.isub, 1) := by decide +kernel
theorem d_Out_hasRoomFor_9 : decode b_Out_hasRoomFor 9 = .ok (.if_icmp .gt 7, 3) := by decide +kernel
theorem d_Out_hasRoomFor_16 : decode b_Out_hasRoomFor 16 = .ok (.iconst 0, 1) := by decide +kernel
theorem d_Out_hasRoomFor_17 : decode b_Out_hasRoomFor 17 = .ok (.ireturn, 1) := by decide +kernel
theorem d_Out_hasRoomFor_12 : decode b_Out_hasRoomFor 12 = .ok (.iconst 1, 1) := by decide +kernel
theorem d_Out_hasRoomFor_13 : decode b_Out_hasRoomFor 13 = .ok (.goto 4, 3) := by decide +kernel
theorem d_Out_eightBytes_0 : decode b_Out_eightBytes 0 = .ok (.lconst 0, 1) := by decide +kernel
theorem d_Out_eightBytes_1 : decode b_Out_eightBytes 1 = .ok (.lstore_n 2, 1) := by decide +kernel
theorem d_Out_eightBytes_2 : decode b_Out_eightBytes 2 = .ok (.iload_n 1, 1) := by decide +kernel
theorem d_Out_eightBytes_3 : decode b_Out_eightBytes 3 = .ok (.ifCond .lt 9, 3) := by decide +kernel
theorem d_Out_eightBytes_12 : decode b_Out_eightBytes 12 = .ok (.lload_n 2, 1) := by decide +kernel
theorem d_Out_eightBytes_13 : decode b_Out_eightBytes 13 = .ok (.lreturn, 1) := by decide +kernel
theorem d_Out_eightBytes_6 : decode b_Out_eightBytes 6 = .ok (.iload_n 1, 1) := by decide +kernel
theorem d_Out_eightBytes_7 : decode b_Out_eightBytes 7 = .ok (.bipush 100, 2) := by decide +kernel
theorem d_Out_eightBytes_9 : decode b_Out_eightBytes 9 = .ok (.if_icmp .lt 5, 3) := by decide +kernel
theorem d_Out_eightBytes_14 : decode b_Out_eightBytes 14 = .ok (.bipush 7, 2) := by decide +kernel
theorem d_Out_eightBytes_16 : decode b_Out_eightBytes 16 = .ok (.istore 4, 2) := by decide +kernel
theorem d_Out_eightBytes_18 : decode b_Out_eightBytes 18 = .ok (.iload 4, 2) := by decide +kernel
theorem d_Out_eightBytes_20 : decode b_Out_eightBytes 20 = .ok (.ifCond .lt 45, 3) := by decide +kernel
theorem d_Out_eightBytes_23 : decode b_Out_eightBytes 23 = .ok (.bipush 8, 2) := by decide +kernel
theorem d_Out_eightBytes_25 : decode b_Out_eightBytes 25 = .ok (.iload_n 1, 1) := by decide +kernel
theorem d_Out_eightBytes_26 : decode b_Out_eightBytes 26 = .ok (.imul, 1) := by decide +kernel
theorem d_Out_eightBytes_27 : decode b_Out_eightBytes 27 = .ok (.iload 4, 2) := by decide +kernel
theorem d_Out_eightBytes_29 : decode b_Out_eightBytes 29 = .ok (.iadd, 1) := by decide +kernel
theorem d_Out_eightBytes_30 : decode b_Out_eightBytes 30 = .ok (.istore 5, 2) := by decide +kernel
theorem d_Out_eightBytes_32 : decode b_Out_eightBytes 32 = .ok (.lload_n 2, 1) := by decide +kernel
theorem d_Out_eightBytes_33 : decode b_Out_eightBytes 33 = .ok (.bipush 8, 2) := by decide +kernel
theorem d_Out_eightBytes_35 : decode b_Out_eightBytes 35 = .ok (.lshl, 1) := by decide +kernel
theorem d_Out_eightBytes_36 : decode b_Out_eightBytes 36 = .ok (.iload 5, 2) := by decide +kernel
theorem d_Out_eightBytes_38 : decode b_Out_eightBytes 38 = .ok (.aload_n 0, 1) := by decide +kernel
theorem d_Out_eightBytes_39 : decode b_Out_eightBytes 39 = .ok (.getfield 15, 3) := by decide +kernel
theorem d_Out_eightBytes_42 : decode b_Out_eightBytes 42 = .ok (.if_icmp .ge 13, 3) := by decide +kernel
theorem d_Out_eightBytes_55 : decode b_Out_eightBytes 55 = .ok (.iconst 0, 1) := by decide +kernel
theorem d_Out_eightBytes_56 : decode b_Out_eightBytes 56 = .ok (.i2l, 1) := by decide +kernel
theorem d_Out_eightBytes_57 : decode b_Out_eightBytes 57 = .ok (.lor, 1) := by decide +kernel
theorem d_Out_eightBytes_58 : decode b_Out_eightBytes 58 = .ok (.lstore_n 2, 1) := by decide +kernel
theorem d_Out_eightBytes_59 : decode b_Out_eightBytes 59 = .ok (.iinc 4 (-1), 3) := by decide +kernel
theorem d_Out_eightBytes_62 : decode b_Out_eightBytes 62 = .ok (.goto (-44), 3) := by decide +kernel
theorem d_Out_eightBytes_45 : decode b_Out_eightBytes 45 = .ok (.aload_n 0, 1) := by decide +kernel
theorem d_Out_eightBytes_46 : decode b_Out_eightBytes 46 = .ok (.getfield 11, 3) := by decide +kernel
theorem d_Out_eightBytes_49 : decode b_Out_eightBytes 49 = .ok (.iload 5, 2) := by decide +kernel
theorem d_Out_eightBytes_51 : decode b_Out_eightBytes 51 = .ok (.iaload, 1) := by decide +kernel
theorem d_Out_eightBytes_52 : decode b_Out_eightBytes 52 = .ok (.goto 4, 3) := by decide +kernel
theorem d_Out_eightBytes_65 : decode b_Out_eightBytes 65 = .ok (.lload_n 2, 1) := by decide +kernel
theorem d_Out_eightBytes_66 : decode b_Out_eightBytes 66 = .ok (.lreturn, 1) := by decide +kernel
theorem d_Out_saidByte_0 : decode b_Out_saidByte 0 = .ok (.aload_n 0, 1) := by decide +kernel
theorem d_Out_saidByte_1 : decode b_Out_saidByte 1 = .ok (.iconst 1, 1) := by decide +kernel
theorem d_Out_saidByte_2 : decode b_Out_saidByte 2 = .ok (.invokevirtual 19, 3) := by decide +kernel
theorem d_Out_saidByte_5 : decode b_Out_saidByte 5 = .ok (.ifCond .ne 6, 3) := by decide +kernel
theorem d_Out_saidByte_11 : decode b_Out_saidByte 11 = .ok (.aload_n 0, 1) := by decide +kernel
theorem d_Out_saidByte_12 : decode b_Out_saidByte 12 = .ok (.getfield 11, 3) := by decide +kernel
theorem d_Out_saidByte_15 : decode b_Out_saidByte 15 = .ok (.aload_n 0, 1) := by decide +kernel
theorem d_Out_saidByte_16 : decode b_Out_saidByte 16 = .ok (.getfield 15, 3) := by decide +kernel
theorem d_Out_saidByte_19 : decode b_Out_saidByte 19 = .ok (.iload_n 1, 1) := by decide +kernel
theorem d_Out_saidByte_20 : decode b_Out_saidByte 20 = .ok (.sipush 255, 3) := by decide +kernel
theorem d_Out_saidByte_23 : decode b_Out_saidByte 23 = .ok (.iand, 1) := by decide +kernel
theorem d_Out_saidByte_24 : decode b_Out_saidByte 24 = .ok (.iastore, 1) := by decide +kernel
theorem d_Out_saidByte_25 : decode b_Out_saidByte 25 = .ok (.aload_n 0, 1) := by decide +kernel
theorem d_Out_saidByte_26 : decode b_Out_saidByte 26 = .ok (.dup, 1) := by decide +kernel
theorem d_Out_saidByte_27 : decode b_Out_saidByte 27 = .ok (.getfield 15, 3) := by decide +kernel
theorem d_Out_saidByte_30 : decode b_Out_saidByte 30 = .ok (.iconst 1, 1) := by decide +kernel
theorem d_Out_saidByte_31 : decode b_Out_saidByte 31 = .ok (.iadd, 1) := by decide +kernel
theorem d_Out_saidByte_32 : decode b_Out_saidByte 32 = .ok (.putfield 15, 3) := by decide +kernel
theorem d_Out_saidByte_35 : decode b_Out_saidByte 35 = .ok (.iconst 0, 1) := by decide +kernel
theorem d_Out_saidByte_36 : decode b_Out_saidByte 36 = .ok (.ireturn, 1) := by decide +kernel
theorem d_Out_saidByte_8 : decode b_Out_saidByte 8 = .ok (.bipush (-17), 2) := by decide +kernel
theorem d_Out_saidByte_10 : decode b_Out_saidByte 10 = .ok (.ireturn, 1) := by decide +kernel
theorem d_Out_digitsOf_0 : decode b_Out_digitsOf 0 = .ok (.iconst 1, 1) := by decide +kernel
theorem d_Out_digitsOf_1 : decode b_Out_digitsOf 1 = .ok (.istore_n 3, 1) := by decide +kernel
theorem d_Out_digitsOf_2 : decode b_Out_digitsOf 2 = .ok (.iload_n 2, 1) := by decide +kernel
theorem d_Out_digitsOf_3 : decode b_Out_digitsOf 3 = .ok (.i2l, 1) := by decide +kernel
theorem d_Out_digitsOf_4 : decode b_Out_digitsOf 4 = .ok (.lstore 4, 2) := by decide +kernel
theorem d_Out_digitsOf_6 : decode b_Out_digitsOf 6 = .ok (.lload 4, 2) := by decide +kernel
theorem d_Out_digitsOf_8 : decode b_Out_digitsOf 8 = .ok (.lload_n 0, 1) := by decide +kernel
theorem d_Out_digitsOf_9 : decode b_Out_digitsOf 9 = .ok (.lcmp, 1) := by decide +kernel
theorem d_Out_digitsOf_10 : decode b_Out_digitsOf 10 = .ok (.ifCond .gt 22, 3) := by decide +kernel
theorem d_Out_digitsOf_32 : decode b_Out_digitsOf 32 = .ok (.iload_n 3, 1) := by decide +kernel
theorem d_Out_digitsOf_33 : decode b_Out_digitsOf 33 = .ok (.ireturn, 1) := by decide +kernel
theorem d_Out_digitsOf_13 : decode b_Out_digitsOf 13 = .ok (.iload_n 3, 1) := by decide +kernel
theorem d_Out_digitsOf_14 : decode b_Out_digitsOf 14 = .ok (.bipush 32, 2) := by decide +kernel
theorem d_Out_digitsOf_16 : decode b_Out_digitsOf 16 = .ok (.if_icmp .ge 16, 3) := by decide +kernel
theorem d_Out_digitsOf_19 : decode b_Out_digitsOf 19 = .ok (.iinc 3 1, 3) := by decide +kernel
theorem d_Out_digitsOf_22 : decode b_Out_digitsOf 22 = .ok (.lload 4, 2) := by decide +kernel
theorem d_Out_digitsOf_24 : decode b_Out_digitsOf 24 = .ok (.iload_n 2, 1) := by decide +kernel
theorem d_Out_digitsOf_25 : decode b_Out_digitsOf 25 = .ok (.i2l, 1) := by decide +kernel
theorem d_Out_digitsOf_26 : decode b_Out_digitsOf 26 = .ok (.lmul, 1) := by decide +kernel
theorem d_Out_digitsOf_27 : decode b_Out_digitsOf 27 = .ok (.lstore 4, 2) := by decide +kernel
theorem d_Out_digitsOf_29 : decode b_Out_digitsOf 29 = .ok (.goto (-23), 3) := by decide +kernel
theorem d_Out_saidNumber_0 : decode b_Out_saidNumber 0 = .ok (.iload_n 3, 1) := by decide +kernel
theorem d_Out_saidNumber_1 : decode b_Out_saidNumber 1 = .ok (.invokestatic 29, 3) := by decide +kernel
theorem d_Out_saidNumber_4 : decode b_Out_saidNumber 4 = .ok (.ifCond .ne 6, 3) := by decide +kernel
theorem d_Out_saidNumber_10 : decode b_Out_saidNumber 10 = .ok (.lload_n 1, 1) := by decide +kernel
theorem d_Out_saidNumber_11 : decode b_Out_saidNumber 11 = .ok (.lconst 0, 1) := by decide +kernel
theorem d_Out_saidNumber_12 : decode b_Out_saidNumber 12 = .ok (.lcmp, 1) := by decide +kernel
theorem d_Out_saidNumber_13 : decode b_Out_saidNumber 13 = .ok (.ifCond .ge 8, 3) := by decide +kernel
theorem d_Out_saidNumber_21 : decode b_Out_saidNumber 21 = .ok (.lload_n 1, 1) := by decide +kernel
theorem d_Out_saidNumber_22 : decode b_Out_saidNumber 22 = .ok (.lstore 4, 2) := by decide +kernel
theorem d_Out_saidNumber_24 : decode b_Out_saidNumber 24 = .ok (.lload_n 1, 1) := by decide +kernel
theorem d_Out_saidNumber_25 : decode b_Out_saidNumber 25 = .ok (.lconst 0, 1) := by decide +kernel
theorem d_Out_saidNumber_26 : decode b_Out_saidNumber 26 = .ok (.lcmp, 1) := by decide +kernel
theorem d_Out_saidNumber_27 : decode b_Out_saidNumber 27 = .ok (.ifCond .ge 7, 3) := by decide +kernel
theorem d_Out_saidNumber_34 : decode b_Out_saidNumber 34 = .ok (.iconst 0, 1) := by decide +kernel
theorem d_Out_saidNumber_35 : decode b_Out_saidNumber 35 = .ok (.istore 6, 2) := by decide +kernel
theorem d_Out_saidNumber_37 : decode b_Out_saidNumber 37 = .ok (.lload 4, 2) := by decide +kernel
theorem d_Out_saidNumber_39 : decode b_Out_saidNumber 39 = .ok (.iload_n 3, 1) := by decide +kernel
theorem d_Out_saidNumber_40 : decode b_Out_saidNumber 40 = .ok (.invokestatic 34, 3) := by decide +kernel
theorem d_Out_saidNumber_43 : decode b_Out_saidNumber 43 = .ok (.istore 7, 2) := by decide +kernel
theorem d_Out_saidNumber_45 : decode b_Out_saidNumber 45 = .ok (.aload_n 0, 1) := by decide +kernel
theorem d_Out_saidNumber_46 : decode b_Out_saidNumber 46 = .ok (.iload 6, 2) := by decide +kernel
theorem d_Out_saidNumber_48 : decode b_Out_saidNumber 48 = .ok (.iload 7, 2) := by decide +kernel
theorem d_Out_saidNumber_50 : decode b_Out_saidNumber 50 = .ok (.iadd, 1) := by decide +kernel
theorem d_Out_saidNumber_51 : decode b_Out_saidNumber 51 = .ok (.iconst 1, 1) := by decide +kernel
theorem d_Out_saidNumber_52 : decode b_Out_saidNumber 52 = .ok (.iadd, 1) := by decide +kernel
theorem d_Out_saidNumber_53 : decode b_Out_saidNumber 53 = .ok (.invokevirtual 19, 3) := by decide +kernel
theorem d_Out_saidNumber_56 : decode b_Out_saidNumber 56 = .ok (.ifCond .ne 6, 3) := by decide +kernel
theorem d_Out_saidNumber_62 : decode b_Out_saidNumber 62 = .ok (.iload 6, 2) := by decide +kernel
theorem d_Out_saidNumber_64 : decode b_Out_saidNumber 64 = .ok (.iconst 1, 1) := by decide +kernel
theorem d_Out_saidNumber_65 : decode b_Out_saidNumber 65 = .ok (.if_icmp .ne 14, 3) := by decide +kernel
theorem d_Out_saidNumber_79 : decode b_Out_saidNumber 79 = .ok (.iload 6, 2) := by decide +kernel
theorem d_Out_saidNumber_81 : decode b_Out_saidNumber 81 = .ok (.iload 7, 2) := by decide +kernel
theorem d_Out_saidNumber_83 : decode b_Out_saidNumber 83 = .ok (.iadd, 1) := by decide +kernel
theorem d_Out_saidNumber_84 : decode b_Out_saidNumber 84 = .ok (.iconst 1, 1) := by decide +kernel
theorem d_Out_saidNumber_85 : decode b_Out_saidNumber 85 = .ok (.isub, 1) := by decide +kernel
theorem d_Out_saidNumber_86 : decode b_Out_saidNumber 86 = .ok (.istore 8, 2) := by decide +kernel
theorem d_Out_saidNumber_88 : decode b_Out_saidNumber 88 = .ok (.iload 8, 2) := by decide +kernel
theorem d_Out_saidNumber_90 : decode b_Out_saidNumber 90 = .ok (.iload 6, 2) := by decide +kernel
theorem d_Out_saidNumber_92 : decode b_Out_saidNumber 92 = .ok (.if_icmp .lt 59, 3) := by decide +kernel
theorem d_Out_saidNumber_151 : decode b_Out_saidNumber 151 = .ok (.aload_n 0, 1) := by decide +kernel
theorem d_Out_saidNumber_152 : decode b_Out_saidNumber 152 = .ok (.getfield 11, 3) := by decide +kernel
theorem d_Out_saidNumber_155 : decode b_Out_saidNumber 155 = .ok (.aload_n 0, 1) := by decide +kernel
theorem d_Out_saidNumber_156 : decode b_Out_saidNumber 156 = .ok (.getfield 15, 3) := by decide +kernel
theorem d_Out_saidNumber_159 : decode b_Out_saidNumber 159 = .ok (.iload 6, 2) := by decide +kernel
theorem d_Out_saidNumber_161 : decode b_Out_saidNumber 161 = .ok (.iadd, 1) := by decide +kernel
theorem d_Out_saidNumber_162 : decode b_Out_saidNumber 162 = .ok (.iload 7, 2) := by decide +kernel
theorem d_Out_saidNumber_164 : decode b_Out_saidNumber 164 = .ok (.iadd, 1) := by decide +kernel
theorem d_Out_saidNumber_165 : decode b_Out_saidNumber 165 = .ok (.bipush 32, 2) := by decide +kernel
theorem d_Out_saidNumber_167 : decode b_Out_saidNumber 167 = .ok (.iastore, 1) := by decide +kernel
theorem d_Out_saidNumber_168 : decode b_Out_saidNumber 168 = .ok (.aload_n 0, 1) := by decide +kernel
theorem d_Out_saidNumber_169 : decode b_Out_saidNumber 169 = .ok (.dup, 1) := by decide +kernel
theorem d_Out_saidNumber_170 : decode b_Out_saidNumber 170 = .ok (.getfield 15, 3) := by decide +kernel
theorem d_Out_saidNumber_173 : decode b_Out_saidNumber 173 = .ok (.iload 6, 2) := by decide +kernel
theorem d_Out_saidNumber_175 : decode b_Out_saidNumber 175 = .ok (.iload 7, 2) := by decide +kernel
theorem d_Out_saidNumber_177 : decode b_Out_saidNumber 177 = .ok (.iadd, 1) := by decide +kernel
theorem d_Out_saidNumber_178 : decode b_Out_saidNumber 178 = .ok (.iconst 1, 1) := by decide +kernel
theorem d_Out_saidNumber_179 : decode b_Out_saidNumber 179 = .ok (.iadd, 1) := by decide +kernel
theorem d_Out_saidNumber_180 : decode b_Out_saidNumber 180 = .ok (.iadd, 1) := by decide +kernel
theorem d_Out_saidNumber_181 : decode b_Out_saidNumber 181 = .ok (.putfield 15, 3) := by decide +kernel
theorem d_Out_saidNumber_184 : decode b_Out_saidNumber 184 = .ok (.iconst 0, 1) := by decide +kernel
theorem d_Out_saidNumber_185 : decode b_Out_saidNumber 185 = .ok (.ireturn, 1) := by decide +kernel
theorem d_Out_saidNumber_95 : decode b_Out_saidNumber 95 = .ok (.lload 4, 2) := by decide +kernel
theorem d_Out_saidNumber_97 : decode b_Out_saidNumber 97 = .ok (.iload_n 3, 1) := by decide +kernel
theorem d_Out_saidNumber_98 : decode b_Out_saidNumber 98 = .ok (.i2l, 1) := by decide +kernel
theorem d_Out_saidNumber_99 : decode b_Out_saidNumber 99 = .ok (.lrem, 1) := by decide +kernel
theorem d_Out_saidNumber_100 : decode b_Out_saidNumber 100 = .ok (.l2i, 1) := by decide +kernel
theorem d_Out_saidNumber_101 : decode b_Out_saidNumber 101 = .ok (.istore 9, 2) := by decide +kernel
theorem d_Out_saidNumber_103 : decode b_Out_saidNumber 103 = .ok (.aload_n 0, 1) := by decide +kernel
theorem d_Out_saidNumber_104 : decode b_Out_saidNumber 104 = .ok (.getfield 11, 3) := by decide +kernel
theorem d_Out_saidNumber_107 : decode b_Out_saidNumber 107 = .ok (.aload_n 0, 1) := by decide +kernel
theorem d_Out_saidNumber_108 : decode b_Out_saidNumber 108 = .ok (.getfield 15, 3) := by decide +kernel
theorem d_Out_saidNumber_111 : decode b_Out_saidNumber 111 = .ok (.iload 8, 2) := by decide +kernel
theorem d_Out_saidNumber_113 : decode b_Out_saidNumber 113 = .ok (.iadd, 1) := by decide +kernel
theorem d_Out_saidNumber_114 : decode b_Out_saidNumber 114 = .ok (.iload 9, 2) := by decide +kernel
theorem d_Out_saidNumber_116 : decode b_Out_saidNumber 116 = .ok (.bipush 10, 2) := by decide +kernel
theorem d_Out_saidNumber_118 : decode b_Out_saidNumber 118 = .ok (.if_icmp .ge 11, 3) := by decide +kernel
theorem d_Out_saidNumber_129 : decode b_Out_saidNumber 129 = .ok (.bipush 97, 2) := by decide +kernel
theorem d_Out_saidNumber_131 : decode b_Out_saidNumber 131 = .ok (.iload 9, 2) := by decide +kernel
theorem d_Out_saidNumber_133 : decode b_Out_saidNumber 133 = .ok (.iadd, 1) := by decide +kernel
theorem d_Out_saidNumber_134 : decode b_Out_saidNumber 134 = .ok (.bipush 10, 2) := by decide +kernel
theorem d_Out_saidNumber_136 : decode b_Out_saidNumber 136 = .ok (.isub, 1) := by decide +kernel
theorem d_Out_saidNumber_137 : decode b_Out_saidNumber 137 = .ok (.iastore, 1) := by decide +kernel
theorem d_Out_saidNumber_138 : decode b_Out_saidNumber 138 = .ok (.lload 4, 2) := by decide +kernel
theorem d_Out_saidNumber_140 : decode b_Out_saidNumber 140 = .ok (.iload_n 3, 1) := by decide +kernel
theorem d_Out_saidNumber_141 : decode b_Out_saidNumber 141 = .ok (.i2l, 1) := by decide +kernel
theorem d_Out_saidNumber_142 : decode b_Out_saidNumber 142 = .ok (.ldiv, 1) := by decide +kernel
theorem d_Out_saidNumber_143 : decode b_Out_saidNumber 143 = .ok (.lstore 4, 2) := by decide +kernel
theorem d_Out_saidNumber_145 : decode b_Out_saidNumber 145 = .ok (.iinc 8 (-1), 3) := by decide +kernel
theorem d_Out_saidNumber_148 : decode b_Out_saidNumber 148 = .ok (.goto (-60), 3) := by decide +kernel
theorem d_Out_saidNumber_121 : decode b_Out_saidNumber 121 = .ok (.bipush 48, 2) := by decide +kernel
theorem d_Out_saidNumber_123 : decode b_Out_saidNumber 123 = .ok (.iload 9, 2) := by decide +kernel
theorem d_Out_saidNumber_125 : decode b_Out_saidNumber 125 = .ok (.iadd, 1) := by decide +kernel
theorem d_Out_saidNumber_126 : decode b_Out_saidNumber 126 = .ok (.goto 11, 3) := by decide +kernel
theorem d_Out_saidNumber_59 : decode b_Out_saidNumber 59 = .ok (.bipush (-17), 2) := by decide +kernel
theorem d_Out_saidNumber_61 : decode b_Out_saidNumber 61 = .ok (.ireturn, 1) := by decide +kernel
theorem d_Out_saidNumber_16 : decode b_Out_saidNumber 16 = .ok (.lload_n 1, 1) := by decide +kernel
theorem d_Out_saidNumber_17 : decode b_Out_saidNumber 17 = .ok (.lneg, 1) := by decide +kernel
theorem d_Out_saidNumber_18 : decode b_Out_saidNumber 18 = .ok (.goto 4, 3) := by decide +kernel
theorem d_Out_saidNumber_30 : decode b_Out_saidNumber 30 = .ok (.iconst 1, 1) := by decide +kernel
theorem d_Out_saidNumber_31 : decode b_Out_saidNumber 31 = .ok (.goto 4, 3) := by decide +kernel
theorem d_Out_saidNumber_68 : decode b_Out_saidNumber 68 = .ok (.aload_n 0, 1) := by decide +kernel
theorem d_Out_saidNumber_69 : decode b_Out_saidNumber 69 = .ok (.getfield 11, 3) := by decide +kernel
theorem d_Out_saidNumber_72 : decode b_Out_saidNumber 72 = .ok (.aload_n 0, 1) := by decide +kernel
theorem d_Out_saidNumber_73 : decode b_Out_saidNumber 73 = .ok (.getfield 15, 3) := by decide +kernel
theorem d_Out_saidNumber_76 : decode b_Out_saidNumber 76 = .ok (.bipush 45, 2) := by decide +kernel
theorem d_Out_saidNumber_78 : decode b_Out_saidNumber 78 = .ok (.iastore, 1) := by decide +kernel
theorem d_Out_saidNumber_7 : decode b_Out_saidNumber 7 = .ok (.bipush (-40), 2) := by decide +kernel
theorem d_Out_saidNumber_9 : decode b_Out_saidNumber 9 = .ok (.ireturn, 1) := by decide +kernel
/-- the picture of ColonMachine$Out.size -/
def F_Out_size (n : Int32) : Int32 := n
theorem F_Out_size_e (n : Int32) : F_Out_size n = n := rfl
set_option maxHeartbeats 4000000 in
set_option maxRecDepth 100000 in
theorem c_Out_size (l : Launch) (D : va_G) (cI cJ cZ cW cT : ClassId) (sz : Nat) (h : Nat) (a : Nat) (n : Int32) (hi : OutOk n) : Met l y_Out_size w_Out_size ({ frames := 0, cells := 0, slots := 0, locals := 0 }) (va_Pc [.ref h] (zP D classes (TY cI cJ cZ cW cT) [(h, .inr (5, [.ref a, .int n]))] sz)) (va_Qi (fun (r : Int32) (_ : Unit) => r = F_Out_size n ∧ (True)) (fun _ => zB D classes (TY cI cJ cZ cW cT) (va_A [(h, .inr (5, [.ref a, .int n]))] sz) [(h, .inr (5, [.ref a, .int n]))]) (va_A [(h, .inr (5, [.ref a, .int n]))] sz)) 0 0 (va_A [(h, .inr (5, [.ref a, .int n]))] sz) := by
  refine Met.ofW (cc := b_Out_size) (maxL := 1) (ret := (some .int)) (by decide) rfl ?_
  intro p e s m args below meth c s₁ B hml hv
  obtain ⟨rfl, hsz, hP, hK, hD0, hE⟩ := hv
  have hx := B.exec
  have hb := B.bytes
  have hr := B.returns
  have hts := atoms_spec (ws := w_Out_size) B.pre
  have hT : ∀ w ∈ TB, w.before _ s = true := fun w h => hts w (List.mem_cons_of_mem _ h)
  have hown : s.vm.findClass "ColonMachine$Out" = some m.cls := findClass_of_methodNamed B.named
  have hlocks := B.notSynchronized
  subst hsz
  have hD := hD0.self (sz := s.heap.size)
  generalize hAe : va_A [(h, .inr (5, [.ref a, .int n]))] s.heap.size = A at hD hE ⊢
  have hA : ∀ q : Nat, s.heap.size ≤ q → A q := fun q h => by rw [← hAe]; exact Or.inr h
  have hS : va_S A s.heap s.heap [] := va_S.rf
  have hl := lv_entry [.ref h] (n := 1) (Nat.le_of_ble_eq_true rfl)
  rw [lg_entry_eq]
  generalize (lg_sl [.ref h] ++ List.replicate (1 - (lg_sl [.ref h]).length) Slot.unset).toArray = ls at hl ⊢
  have hl : lv_has ls 1 [(0, .ref h)] := hl
  have hF := F_Out_size_e n
  refine lv_aload_n hx hb d_Out_size_0 rfl (lv_at hl 0 rfl) ?_
  refine va_get (D := D) (v := .int n) (C := "ColonMachine$Out") (T := T_Out) (N := 2) hx hb hT i_Out hown hK hP 0 rfl rfl 1 (by decide) (hT _ fl_Out_15) (fun _ h9 => h9) rfl d_Out_size_1 ?_
  exact W.iret (v := n) hx hb hr (fun t ht hW => ⟨⟨_, (), rfl, ⟨hF.symm, trivial⟩, ⟨by rw [ht]; exact hP, va_K.moved hW.alike hK, hD⟩⟩, hS.F ht⟩) hS.2.2 d_Out_size_4
/-- the picture of ColonMachine$Out.empty -/
def F_Out_empty  : Int32 := 0
theorem F_Out_empty_e  : F_Out_empty = 0 := rfl
set_option maxHeartbeats 4000000 in
set_option maxRecDepth 100000 in
theorem c_Out_empty (l : Launch) (D : va_G) (cI cJ cZ cW cT : ClassId) (sz : Nat) (h : Nat) (a : Nat) (n : Int32) (hi : OutOk n) : Met l y_Out_empty w_Out_empty ({ frames := 0, cells := 0, slots := 0, locals := 0 }) (va_Pc [.ref h] (zP D classes (TY cI cJ cZ cW cT) [(h, .inr (5, [.ref a, .int n]))] sz)) (va_Qv (fun u : Int32 => u = F_Out_empty ∧ ((OutOk u))) (fun u => zB D classes (TY cI cJ cZ cW cT) (va_A [(h, .inr (5, [.ref a, .int n]))] sz) [(h, .inr (5, [.ref a, .int u]))]) (va_A [(h, .inr (5, [.ref a, .int n]))] sz)) 0 0 (va_A [(h, .inr (5, [.ref a, .int n]))] sz) := by
  refine Met.ofW (cc := b_Out_empty) (maxL := 1) (ret := none) (by decide) rfl ?_
  intro p e s m args below meth c s₁ B hml hv
  obtain ⟨rfl, hsz, hP, hK, hD0, hE⟩ := hv
  have hx := B.exec
  have hb := B.bytes
  have hr := B.returns
  have hts := atoms_spec (ws := w_Out_empty) B.pre
  have hT : ∀ w ∈ TB, w.before _ s = true := fun w h => hts w (List.mem_cons_of_mem _ h)
  have hown : s.vm.findClass "ColonMachine$Out" = some m.cls := findClass_of_methodNamed B.named
  have hlocks := B.notSynchronized
  subst hsz
  have hD := hD0.self (sz := s.heap.size)
  generalize hAe : va_A [(h, .inr (5, [.ref a, .int n]))] s.heap.size = A at hD hE ⊢
  have hA : ∀ q : Nat, s.heap.size ≤ q → A q := fun q h => by rw [← hAe]; exact Or.inr h
  have hS : va_S A s.heap s.heap [] := va_S.rf
  have hl := lv_entry [.ref h] (n := 1) (Nat.le_of_ble_eq_true rfl)
  rw [lg_entry_eq]
  generalize (lg_sl [.ref h] ++ List.replicate (1 - (lg_sl [.ref h]).length) Slot.unset).toArray = ls at hl ⊢
  have hl : lv_has ls 1 [(0, .ref h)] := hl
  have hF := F_Out_empty_e 
  refine lv_aload_n hx hb d_Out_empty_0 rfl (lv_at hl 0 rfl) ?_
  refine lv_iconst (v := 0) hx hb d_Out_empty_1 (by decide) ?_
  refine va_put (D := D) (v := .int 0) (ty := .int) (C := "ColonMachine$Out") (T := T_Out) (N := 2) hx hb hT i_Out t_Out tk_Out n_Out hown hK hP hD hS 0 rfl rfl 1 (by decide) (hT _ fl_Out_15) (fun _ h9 => h9) rfl (by decide +kernel) rfl rfl (Nat.le_of_ble_eq_true rfl) d_Out_empty_2 (fun H locs hP hD hS => ?_)
  have hP : va_P D classes [(h, .inr (5, [.ref a, .int 0]))] H := hP
  have hD : va_D A [(h, .inr (5, [.ref a, .int 0]))] := hD
  exact W.vret hx hb hr (fun t ht hW => ⟨⟨_, rfl, ⟨hF.symm, (by have := ti_lo n; have := ti_hi n; have t0 : Int32.toInt 0 = 0 := rfl; (try simp only [true_or, or_true, true_and, and_true, z_tn, CellsOk, CallsOk, TextOk, MemOk, OutOk, Int32.lt_iff_toInt_lt, Int32.le_iff_toInt_le, ← Int32.toInt_inj, Int32.toInt_add, Int32.toInt_sub, Int32.toInt_mul, Int32.toInt_neg, zbm, zbm', t0] at hi ⊢) <;> omega)⟩, ⟨by rw [ht]; exact hP, va_K.moved hW.alike hK, hD⟩⟩, hS.F ht⟩) hS.2.2 d_Out_empty_5
/-- the picture of ColonMachine$Out.hasRoomFor -/
def F_Out_hasRoomFor (n : Int32) (x1 : Int32) : Int32 := if (800 - n) < x1 then 0 else 1
theorem F_Out_hasRoomFor_e (n : Int32) (x1 : Int32) : F_Out_hasRoomFor n x1 = if (800 - n) < x1 then 0 else 1 := rfl
set_option maxHeartbeats 4000000 in
set_option maxRecDepth 100000 in
theorem c_Out_hasRoomFor (l : Launch) (D : va_G) (cI cJ cZ cW cT : ClassId) (sz : Nat) (h : Nat) (a : Nat) (n : Int32) (x1 : Int32) (hi : OutOk n) : Met l y_Out_hasRoomFor w_Out_hasRoomFor ({ frames := 0, cells := 0, slots := 0, locals := 0 }) (va_Pc [.ref h, .int x1] (zP D classes (TY cI cJ cZ cW cT) [(h, .inr (5, [.ref a, .int n]))] sz)) (va_Qi (fun (r : Int32) (_ : Unit) => r = F_Out_hasRoomFor n x1 ∧ ((r.toInt = 0 ∨ x1.toInt ≤ 800 - n.toInt) ∧ (r = 0 ∨ r = 1))) (fun _ => zB D classes (TY cI cJ cZ cW cT) (va_A [(h, .inr (5, [.ref a, .int n]))] sz) [(h, .inr (5, [.ref a, .int n]))]) (va_A [(h, .inr (5, [.ref a, .int n]))] sz)) 0 0 (va_A [(h, .inr (5, [.ref a, .int n]))] sz) := by
  refine Met.ofW (cc := b_Out_hasRoomFor) (maxL := 2) (ret := (some .boolean)) (by decide) rfl ?_
  intro p e s m args below meth c s₁ B hml hv
  obtain ⟨rfl, hsz, hP, hK, hD0, hE⟩ := hv
  have hx := B.exec
  have hb := B.bytes
  have hr := B.returns
  have hts := atoms_spec (ws := w_Out_hasRoomFor) B.pre
  have hT : ∀ w ∈ TB, w.before _ s = true := fun w h => hts w (List.mem_cons_of_mem _ h)
  have hown : s.vm.findClass "ColonMachine$Out" = some m.cls := findClass_of_methodNamed B.named
  have hlocks := B.notSynchronized
  subst hsz
  have hD := hD0.self (sz := s.heap.size)
  generalize hAe : va_A [(h, .inr (5, [.ref a, .int n]))] s.heap.size = A at hD hE ⊢
  have hA : ∀ q : Nat, s.heap.size ≤ q → A q := fun q h => by rw [← hAe]; exact Or.inr h
  have hS : va_S A s.heap s.heap [] := va_S.rf
  have hl := lv_entry [.ref h, .int x1] (n := 2) (Nat.le_of_ble_eq_true rfl)
  rw [lg_entry_eq]
  generalize (lg_sl [.ref h, .int x1] ++ List.replicate (2 - (lg_sl [.ref h, .int x1]).length) Slot.unset).toArray = ls at hl ⊢
  have hl : lv_has ls 2 [(0, .ref h), (1, .int x1)] := hl
  have hF := F_Out_hasRoomFor_e n x1
  refine lv_iload_n hx hb d_Out_hasRoomFor_0 rfl (lv_at hl 1 rfl) ?_
  refine lv_sipush (v := 800) hx hb d_Out_hasRoomFor_1 (by decide) ?_
  refine lv_aload_n hx hb d_Out_hasRoomFor_4 rfl (lv_at hl 0 rfl) ?_
  refine va_get (D := D) (v := .int n) (C := "ColonMachine$Out") (T := T_Out) (N := 2) hx hb hT i_Out hown hK hP 0 rfl rfl 1 (by decide) (hT _ fl_Out_15) (fun _ h9 => h9) rfl d_Out_hasRoomFor_5 ?_
  refine lv_isub hx hb d_Out_hasRoomFor_8 ?_
  refine lv_icmp_gt (tgt := 16) hx hb d_Out_hasRoomFor_9 (by decide) (fun c1 => ?_) (fun c1 => ?_)
  · have hF := hF.trans (if_pos c1)
    refine lv_iconst (v := 0) hx hb d_Out_hasRoomFor_16 (by decide) ?_
    exact W.zret (v := 0) hx hb hr rfl (fun t ht hW => ⟨⟨_, (), rfl, ⟨hF.symm, ⟨(by have := ti_lo n; have := ti_hi n; have := ti_lo x1; have := ti_hi x1; have t0 : Int32.toInt 0 = 0 := rfl; have t800 : Int32.toInt 800 = 800 := rfl; (try simp only [true_or, or_true, true_and, and_true, z_tn, CellsOk, CallsOk, TextOk, MemOk, OutOk, Int32.lt_iff_toInt_lt, Int32.le_iff_toInt_le, ← Int32.toInt_inj, Int32.toInt_add, Int32.toInt_sub, Int32.toInt_mul, Int32.toInt_neg, zbm, zbm', t0, t800] at c1 hi ⊢) <;> omega), (Or.inl rfl)⟩⟩, ⟨by rw [ht]; exact hP, va_K.moved hW.alike hK, hD⟩⟩, hS.F ht⟩) hS.2.2 d_Out_hasRoomFor_17
  · have hF := hF.trans (if_neg c1)
    refine lv_iconst (v := 1) hx hb d_Out_hasRoomFor_12 (by decide) ?_
    refine lv_goto (tgt := 17) hx hb d_Out_hasRoomFor_13 (by decide) ?_
    exact W.zret (v := 1) hx hb hr rfl (fun t ht hW => ⟨⟨_, (), rfl, ⟨hF.symm, ⟨(by have := ti_lo n; have := ti_hi n; have := ti_lo x1; have := ti_hi x1; have t1 : Int32.toInt 1 = 1 := rfl; have t0 : Int32.toInt 0 = 0 := rfl; have t800 : Int32.toInt 800 = 800 := rfl; (try simp only [true_or, or_true, true_and, and_true, z_tn, CellsOk, CallsOk, TextOk, MemOk, OutOk, Int32.lt_iff_toInt_lt, Int32.le_iff_toInt_le, ← Int32.toInt_inj, Int32.toInt_add, Int32.toInt_sub, Int32.toInt_mul, Int32.toInt_neg, zbm, zbm', t1, t0, t800] at c1 hi ⊢) <;> omega), (Or.inr rfl)⟩⟩, ⟨by rw [ht]; exact hP, va_K.moved hW.alike hK, hD⟩⟩, hS.F ht⟩) hS.2.2 d_Out_hasRoomFor_17
def F_Out_eightBytes_L18 (n : Int32) (f : Nat → Int32) (x1 : Int32) : Nat → (Int32) → (Int64) → Int64
  | 0, _, _ => 0
  | k18 + 1, v4, v2 => if v4 < 0 then v2 else (if n ≤ ((8 * x1) + v4) then (F_Out_eightBytes_L18 n f x1 k18 (v4 + (-1)) ((v2 <<< ((8 : Int32).toInt64 &&& 63)) ||| ((0 : Int32).toInt64))) else (F_Out_eightBytes_L18 n f x1 k18 (v4 + (-1)) ((v2 <<< ((8 : Int32).toInt64 &&& 63)) ||| ((f ((8 * x1) + v4).toNatClampNeg).toInt64))))
theorem F_Out_eightBytes_L18_s (n : Int32) (f : Nat → Int32) (x1 : Int32) (k18 : Nat) (v4 : Int32) (v2 : Int64) : F_Out_eightBytes_L18 n f x1 (k18 + 1) v4 v2 = if v4 < 0 then v2 else (if n ≤ ((8 * x1) + v4) then (F_Out_eightBytes_L18 n f x1 k18 (v4 + (-1)) ((v2 <<< ((8 : Int32).toInt64 &&& 63)) ||| ((0 : Int32).toInt64))) else (F_Out_eightBytes_L18 n f x1 k18 (v4 + (-1)) ((v2 <<< ((8 : Int32).toInt64 &&& 63)) ||| ((f ((8 * x1) + v4).toNatClampNeg).toInt64)))) := rfl
/-- the picture of ColonMachine$Out.eightBytes -/
def F_Out_eightBytes (n : Int32) (f : Nat → Int32) (x1 : Int32) : Int64 := if x1 < 0 then 0 else (if x1 < 100 then (F_Out_eightBytes_L18 n f x1 ((((7 : Int32).toInt + 1).toNat) + 1) 7 0) else 0)
theorem F_Out_eightBytes_e (n : Int32) (f : Nat → Int32) (x1 : Int32) : F_Out_eightBytes n f x1 = if x1 < 0 then 0 else (if x1 < 100 then (F_Out_eightBytes_L18 n f x1 ((((7 : Int32).toInt + 1).toNat) + 1) 7 0) else 0) := rfl
set_option maxHeartbeats 4000000 in
set_option maxRecDepth 100000 in
theorem c_Out_eightBytes (l : Launch) (D : va_G) (cI cJ cZ cW cT : ClassId) (sz : Nat) (h : Nat) (a : Nat) (n : Int32) (f : Nat → Int32) (x1 : Int32) (hi : OutOk n) : Met l y_Out_eightBytes w_Out_eightBytes ({ frames := 0, cells := 0, slots := 0, locals := 0 }) (va_Pc [.ref h, .int x1] (zP D classes (TY cI cJ cZ cW cT) [(h, .inr (5, [.ref a, .int n])), (a, .inl (cI, 800, .inl f))] sz)) (va_Ql (fun (r : Int64) (_ : Unit) => r = F_Out_eightBytes n f x1 ∧ (True)) (fun _ => zB D classes (TY cI cJ cZ cW cT) (va_A [(h, .inr (5, [.ref a, .int n])), (a, .inl (cI, 800, .inl f))] sz) [(h, .inr (5, [.ref a, .int n])), (a, .inl (cI, 800, .inl f))]) (va_A [(h, .inr (5, [.ref a, .int n])), (a, .inl (cI, 800, .inl f))] sz)) 0 0 (va_A [(h, .inr (5, [.ref a, .int n])), (a, .inl (cI, 800, .inl f))] sz) := by
  refine Met.ofW (cc := b_Out_eightBytes) (maxL := 6) (ret := (some .long)) (by decide) rfl ?_
  intro p e s m args below meth c s₁ B hml hv
  obtain ⟨rfl, hsz, hP, hK, hD0, hE⟩ := hv
  have hx := B.exec
  have hb := B.bytes
  have hr := B.returns
  have hts := atoms_spec (ws := w_Out_eightBytes) B.pre
  have hT : ∀ w ∈ TB, w.before _ s = true := fun w h => hts w (List.mem_cons_of_mem _ h)
  have hown : s.vm.findClass "ColonMachine$Out" = some m.cls := findClass_of_methodNamed B.named
  have hlocks := B.notSynchronized
  subst hsz
  have hD := hD0.self (sz := s.heap.size)
  generalize hAe : va_A [(h, .inr (5, [.ref a, .int n])), (a, .inl (cI, 800, .inl f))] s.heap.size = A at hD hE ⊢
  have hA : ∀ q : Nat, s.heap.size ≤ q → A q := fun q h => by rw [← hAe]; exact Or.inr h
  have hS : va_S A s.heap s.heap [] := va_S.rf
  have hl := lv_entry [.ref h, .int x1] (n := 6) (Nat.le_of_ble_eq_true rfl)
  rw [lg_entry_eq]
  generalize (lg_sl [.ref h, .int x1] ++ List.replicate (6 - (lg_sl [.ref h, .int x1]).length) Slot.unset).toArray = ls at hl ⊢
  have hl : lv_has ls 6 [(0, .ref h), (1, .int x1)] := hl
  have hF := F_Out_eightBytes_e n f x1
  refine lv_lconst (v := 0) hx hb d_Out_eightBytes_0 (by decide) ?_
  refine lv_lstore_n (lv' := [(2, .long 0), (0, .ref h), (1, .int x1)]) hx hb d_Out_eightBytes_1 rfl hl (by decide) rfl (fun ls hl => ?_)
  refine lv_iload_n hx hb d_Out_eightBytes_2 rfl (lv_at hl 2 rfl) ?_
  refine lv_if_lt (tgt := 12) hx hb d_Out_eightBytes_3 (by decide) (fun c1 => ?_) (fun c1 => ?_)
  · have hF := hF.trans (if_pos c1)
    refine lv_lload_n hx hb d_Out_eightBytes_12 rfl (lv_at hl 0 rfl) ?_
    exact W.lret (v := 0) hx hb hr (fun t ht hW => ⟨⟨_, (), rfl, ⟨hF.symm, trivial⟩, ⟨by rw [ht]; exact hP, va_K.moved hW.alike hK, hD⟩⟩, hS.F ht⟩) hS.2.2 d_Out_eightBytes_13
  · have hF := hF.trans (if_neg c1)
    refine lv_iload_n hx hb d_Out_eightBytes_6 rfl (lv_at hl 2 rfl) ?_
    refine lv_bipush (v := 100) hx hb d_Out_eightBytes_7 (by decide) ?_
    refine lv_icmp_lt (tgt := 14) hx hb d_Out_eightBytes_9 (by decide) (fun c2 => ?_) (fun c2 => ?_)
    · have hF := hF.trans (if_pos c2)
      refine lv_bipush (v := 7) hx hb d_Out_eightBytes_14 (by decide) ?_
      refine lv_istore (lv' := [(4, .int 7), (2, .long 0), (0, .ref h), (1, .int x1)]) hx hb d_Out_eightBytes_16 hl (by decide) rfl (fun ls hl => ?_)
      have loop : ∀ (k18 : Nat) (v4 : Int32) (v2 : Int64) (hk : (v4.toInt + 1).toNat < k18) (hw : v4.toInt ≤ 7) (hw2 : -1 ≤ v4.toInt) (H : Heap) (locs : List Loc) (ls : Array Slot) (hP : va_P D classes [(h, .inr (5, [.ref a, .int n])), (a, .inl (cI, 800, .inl f))] H) (hD : va_D A [(h, .inr (5, [.ref a, .int n])), (a, .inl (cI, 800, .inl f))]) (hS : va_S A s.heap H locs) (hl : lv_has ls 6 [(4, .int v4), (2, .long v2), (0, .ref h), (1, .int x1)]) (hF : F_Out_eightBytes n f x1 = F_Out_eightBytes_L18 n f x1 k18 v4 v2), W p l e (headSpec w_Out_eightBytes ({ frames := 0, cells := 0, slots := 0, locals := 0 })).room s m (List.toArray [.ref h, .int x1]) below meth c H locs 0 0 (MQ below (va_Ql (fun (r : Int64) (_ : Unit) => r = F_Out_eightBytes n f x1 ∧ (True)) (fun _ => zB D classes (TY cI cJ cZ cW cT) A [(h, .inr (5, [.ref a, .int n])), (a, .inl (cI, 800, .inl f))]) A) (List.toArray [.ref h, .int x1]) s 0 0 A) (F0 m 18 ls []) := by
        intro k18
        induction k18 with
        | zero => intro v4 v2 hk; exact absurd hk (Nat.not_lt_zero _)
        | succ k18 ih =>
          intro v4 v2 hk hw hw2 H locs ls hP hD hS hl hF
          have hF := hF.trans (F_Out_eightBytes_L18_s n f x1 k18 v4 v2)
          refine lv_iload hx hb d_Out_eightBytes_18 (lv_at hl 0 rfl) ?_
          refine lv_if_lt (tgt := 65) hx hb d_Out_eightBytes_20 (by decide) (fun c3 => ?_) (fun c3 => ?_)
          · have hF := hF.trans (if_pos c3)
            refine lv_lload_n hx hb d_Out_eightBytes_65 rfl (lv_at hl 1 rfl) ?_
            exact W.lret (v := v2) hx hb hr (fun t ht hW => ⟨⟨_, (), rfl, ⟨hF.symm, trivial⟩, ⟨by rw [ht]; exact hP, va_K.moved hW.alike hK, hD⟩⟩, hS.F ht⟩) hS.2.2 d_Out_eightBytes_66
          · have hF := hF.trans (if_neg c3)
            refine lv_bipush (v := 8) hx hb d_Out_eightBytes_23 (by decide) ?_
            refine lv_iload_n hx hb d_Out_eightBytes_25 rfl (lv_at hl 3 rfl) ?_
            refine lv_imul hx hb d_Out_eightBytes_26 ?_
            refine lv_iload hx hb d_Out_eightBytes_27 (lv_at hl 0 rfl) ?_
            refine lv_iadd hx hb d_Out_eightBytes_29 ?_
            refine lv_istore (lv' := [(5, .int ((8 * x1) + v4)), (4, .int v4), (2, .long v2), (0, .ref h), (1, .int x1)]) hx hb d_Out_eightBytes_30 hl (by decide) rfl (fun ls hl => ?_)
            refine lv_lload_n hx hb d_Out_eightBytes_32 rfl (lv_at hl 2 rfl) ?_
            refine lv_bipush (v := 8) hx hb d_Out_eightBytes_33 (by decide) ?_
            refine lv_lshl (v := v2 <<< ((8 : Int32).toInt64 &&& 63)) hx hb d_Out_eightBytes_35 rfl ?_
            refine lv_iload hx hb d_Out_eightBytes_36 (lv_at hl 0 rfl) ?_
            refine lv_aload_n hx hb d_Out_eightBytes_38 rfl (lv_at hl 3 rfl) ?_
            refine va_get (D := D) (v := .int n) (C := "ColonMachine$Out") (T := T_Out) (N := 2) hx hb hT i_Out hown hK hP 0 rfl rfl 1 (by decide) (hT _ fl_Out_15) (fun _ h9 => h9) rfl d_Out_eightBytes_39 ?_
            refine lv_icmp_ge (tgt := 55) hx hb d_Out_eightBytes_42 (by decide) (fun c4 => ?_) (fun c4 => ?_)
            · have hF := hF.trans (if_pos c4)
              refine lv_iconst (v := 0) hx hb d_Out_eightBytes_55 (by decide) ?_
              refine lv_i2l (v := (0 : Int32).toInt64) hx hb d_Out_eightBytes_56 rfl ?_
              refine lv_lor hx hb d_Out_eightBytes_57 ?_
              refine lv_lstore_n (lv' := [(2, .long ((v2 <<< ((8 : Int32).toInt64 &&& 63)) ||| ((0 : Int32).toInt64))), (5, .int ((8 * x1) + v4)), (4, .int v4), (0, .ref h), (1, .int x1)]) hx hb d_Out_eightBytes_58 rfl hl (by decide) rfl (fun ls hl => ?_)
              refine lv_iinc (v := v4 + (-1)) (lv' := [(4, .int (v4 + (-1))), (2, .long ((v2 <<< ((8 : Int32).toInt64 &&& 63)) ||| ((0 : Int32).toInt64))), (5, .int ((8 * x1) + v4)), (0, .ref h), (1, .int x1)]) hx hb d_Out_eightBytes_59 hl (k := 2) rfl rfl (by decide) rfl (fun ls hl => ?_)
              refine lv_goto (tgt := 18) hx hb d_Out_eightBytes_62 (by decide) ?_
              exact ih (v4 + (-1)) ((v2 <<< ((8 : Int32).toInt64 &&& 63)) ||| ((0 : Int32).toInt64)) (by have := ti_lo v4; have := ti_hi v4; have := ti_lo n; have := ti_hi n; have := ti_lo x1; have := ti_hi x1; have tm1 : Int32.toInt (-1) = -1 := rfl; have t1 : Int32.toInt 1 = 1 := rfl; have t0 : Int32.toInt 0 = 0 := rfl; have t100 : Int32.toInt 100 = 100 := rfl; have t7 : Int32.toInt 7 = 7 := rfl; have t8 : Int32.toInt 8 = 8 := rfl; (try simp only [true_or, or_true, true_and, and_true, z_tn, CellsOk, CallsOk, TextOk, MemOk, OutOk, Int32.lt_iff_toInt_lt, Int32.le_iff_toInt_le, ← Int32.toInt_inj, Int32.toInt_add, Int32.toInt_sub, Int32.toInt_mul, Int32.toInt_neg, zbm, zbm', tm1, t1, t0, t100, t7, t8] at c1 c2 c3 c4 hi hw hw2 hk ⊢) <;> omega) (by have := ti_lo v4; have := ti_hi v4; have := ti_lo n; have := ti_hi n; have := ti_lo x1; have := ti_hi x1; have tm1 : Int32.toInt (-1) = -1 := rfl; have t1 : Int32.toInt 1 = 1 := rfl; have t7 : Int32.toInt 7 = 7 := rfl; have t0 : Int32.toInt 0 = 0 := rfl; have t100 : Int32.toInt 100 = 100 := rfl; have t8 : Int32.toInt 8 = 8 := rfl; (try simp only [true_or, or_true, true_and, and_true, z_tn, CellsOk, CallsOk, TextOk, MemOk, OutOk, Int32.lt_iff_toInt_lt, Int32.le_iff_toInt_le, ← Int32.toInt_inj, Int32.toInt_add, Int32.toInt_sub, Int32.toInt_mul, Int32.toInt_neg, zbm, zbm', tm1, t1, t7, t0, t100, t8] at c1 c2 c3 c4 hi hw hw2 ⊢) <;> omega) (by have := ti_lo v4; have := ti_hi v4; have := ti_lo n; have := ti_hi n; have := ti_lo x1; have := ti_hi x1; have tm1 : Int32.toInt (-1) = -1 := rfl; have t1 : Int32.toInt 1 = 1 := rfl; have t0 : Int32.toInt 0 = 0 := rfl; have t100 : Int32.toInt 100 = 100 := rfl; have t7 : Int32.toInt 7 = 7 := rfl; have t8 : Int32.toInt 8 = 8 := rfl; (try simp only [true_or, or_true, true_and, and_true, z_tn, CellsOk, CallsOk, TextOk, MemOk, OutOk, Int32.lt_iff_toInt_lt, Int32.le_iff_toInt_le, ← Int32.toInt_inj, Int32.toInt_add, Int32.toInt_sub, Int32.toInt_mul, Int32.toInt_neg, zbm, zbm', tm1, t1, t0, t100, t7, t8] at c1 c2 c3 c4 hi hw hw2 ⊢) <;> omega) _ _ _ hP hD hS (lv_sub hl [0, 1, 3, 4] rfl) hF
            · have hF := hF.trans (if_neg c4)
              refine lv_aload_n hx hb d_Out_eightBytes_45 rfl (lv_at hl 3 rfl) ?_
              refine va_get (D := D) (v := .ref a) (C := "ColonMachine$Out") (T := T_Out) (N := 2) hx hb hT i_Out hown hK hP 0 rfl rfl 0 (by decide) (hT _ fl_Out_11) (fun _ h9 => h9) rfl d_Out_eightBytes_46 ?_
              refine lv_iload hx hb d_Out_eightBytes_49 (lv_at hl 0 rfl) ?_
              refine va_iald hx hb hK hP 1 0 rfl rfl (by have := ti_lo x1; have := ti_hi x1; have := ti_lo v4; have := ti_hi v4; have := ti_lo n; have := ti_hi n; have t8 : Int32.toInt 8 = 8 := rfl; have t800 : Int32.toInt 800 = 800 := rfl; have t0 : Int32.toInt 0 = 0 := rfl; have t100 : Int32.toInt 100 = 100 := rfl; have t7 : Int32.toInt 7 = 7 := rfl; have tm1 : Int32.toInt (-1) = -1 := rfl; have t1 : Int32.toInt 1 = 1 := rfl; rw [vp_in_iff]; (try simp only [true_or, or_true, true_and, and_true, z_tn, CellsOk, CallsOk, TextOk, MemOk, OutOk, Int32.lt_iff_toInt_lt, Int32.le_iff_toInt_le, ← Int32.toInt_inj, Int32.toInt_add, Int32.toInt_sub, Int32.toInt_mul, Int32.toInt_neg, zbm, zbm', t8, t800, t0, t100, t7, tm1, t1] at c1 c2 c3 c4 hi hw hw2 ⊢) <;> omega) d_Out_eightBytes_51 ?_
              refine lv_goto (tgt := 56) hx hb d_Out_eightBytes_52 (by decide) ?_
              refine lv_i2l (v := (f ((8 * x1) + v4).toNatClampNeg).toInt64) hx hb d_Out_eightBytes_56 rfl ?_
              refine lv_lor hx hb d_Out_eightBytes_57 ?_
              refine lv_lstore_n (lv' := [(2, .long ((v2 <<< ((8 : Int32).toInt64 &&& 63)) ||| ((f ((8 * x1) + v4).toNatClampNeg).toInt64))), (5, .int ((8 * x1) + v4)), (4, .int v4), (0, .ref h), (1, .int x1)]) hx hb d_Out_eightBytes_58 rfl hl (by decide) rfl (fun ls hl => ?_)
              refine lv_iinc (v := v4 + (-1)) (lv' := [(4, .int (v4 + (-1))), (2, .long ((v2 <<< ((8 : Int32).toInt64 &&& 63)) ||| ((f ((8 * x1) + v4).toNatClampNeg).toInt64))), (5, .int ((8 * x1) + v4)), (0, .ref h), (1, .int x1)]) hx hb d_Out_eightBytes_59 hl (k := 2) rfl rfl (by decide) rfl (fun ls hl => ?_)
              refine lv_goto (tgt := 18) hx hb d_Out_eightBytes_62 (by decide) ?_
              exact ih (v4 + (-1)) ((v2 <<< ((8 : Int32).toInt64 &&& 63)) ||| ((f ((8 * x1) + v4).toNatClampNeg).toInt64)) (by have := ti_lo v4; have := ti_hi v4; have := ti_lo n; have := ti_hi n; have := ti_lo x1; have := ti_hi x1; have tm1 : Int32.toInt (-1) = -1 := rfl; have t1 : Int32.toInt 1 = 1 := rfl; have t0 : Int32.toInt 0 = 0 := rfl; have t100 : Int32.toInt 100 = 100 := rfl; have t7 : Int32.toInt 7 = 7 := rfl; have t8 : Int32.toInt 8 = 8 := rfl; (try simp only [true_or, or_true, true_and, and_true, z_tn, CellsOk, CallsOk, TextOk, MemOk, OutOk, Int32.lt_iff_toInt_lt, Int32.le_iff_toInt_le, ← Int32.toInt_inj, Int32.toInt_add, Int32.toInt_sub, Int32.toInt_mul, Int32.toInt_neg, zbm, zbm', tm1, t1, t0, t100, t7, t8] at c1 c2 c3 c4 hi hw hw2 hk ⊢) <;> omega) (by have := ti_lo v4; have := ti_hi v4; have := ti_lo n; have := ti_hi n; have := ti_lo x1; have := ti_hi x1; have tm1 : Int32.toInt (-1) = -1 := rfl; have t1 : Int32.toInt 1 = 1 := rfl; have t7 : Int32.toInt 7 = 7 := rfl; have t0 : Int32.toInt 0 = 0 := rfl; have t100 : Int32.toInt 100 = 100 := rfl; have t8 : Int32.toInt 8 = 8 := rfl; (try simp only [true_or, or_true, true_and, and_true, z_tn, CellsOk, CallsOk, TextOk, MemOk, OutOk, Int32.lt_iff_toInt_lt, Int32.le_iff_toInt_le, ← Int32.toInt_inj, Int32.toInt_add, Int32.toInt_sub, Int32.toInt_mul, Int32.toInt_neg, zbm, zbm', tm1, t1, t7, t0, t100, t8] at c1 c2 c3 c4 hi hw hw2 ⊢) <;> omega) (by have := ti_lo v4; have := ti_hi v4; have := ti_lo n; have := ti_hi n; have := ti_lo x1; have := ti_hi x1; have tm1 : Int32.toInt (-1) = -1 := rfl; have t1 : Int32.toInt 1 = 1 := rfl; have t0 : Int32.toInt 0 = 0 := rfl; have t100 : Int32.toInt 100 = 100 := rfl; have t7 : Int32.toInt 7 = 7 := rfl; have t8 : Int32.toInt 8 = 8 := rfl; (try simp only [true_or, or_true, true_and, and_true, z_tn, CellsOk, CallsOk, TextOk, MemOk, OutOk, Int32.lt_iff_toInt_lt, Int32.le_iff_toInt_le, ← Int32.toInt_inj, Int32.toInt_add, Int32.toInt_sub, Int32.toInt_mul, Int32.toInt_neg, zbm, zbm', tm1, t1, t0, t100, t7, t8] at c1 c2 c3 c4 hi hw hw2 ⊢) <;> omega) _ _ _ hP hD hS (lv_sub hl [0, 1, 3, 4] rfl) hF
      exact loop ((((7 : Int32).toInt + 1).toNat) + 1) 7 0 (Nat.lt_succ_self _) (by have := ti_lo n; have := ti_hi n; have := ti_lo x1; have := ti_hi x1; have t7 : Int32.toInt 7 = 7 := rfl; have t0 : Int32.toInt 0 = 0 := rfl; have t100 : Int32.toInt 100 = 100 := rfl; (try simp only [true_or, or_true, true_and, and_true, z_tn, CellsOk, CallsOk, TextOk, MemOk, OutOk, Int32.lt_iff_toInt_lt, Int32.le_iff_toInt_le, ← Int32.toInt_inj, Int32.toInt_add, Int32.toInt_sub, Int32.toInt_mul, Int32.toInt_neg, zbm, zbm', t7, t0, t100] at c1 c2 hi ⊢) <;> omega) (by have := ti_lo n; have := ti_hi n; have := ti_lo x1; have := ti_hi x1; have tm1 : Int32.toInt (-1) = -1 := rfl; have t1 : Int32.toInt 1 = 1 := rfl; have t7 : Int32.toInt 7 = 7 := rfl; have t0 : Int32.toInt 0 = 0 := rfl; have t100 : Int32.toInt 100 = 100 := rfl; (try simp only [true_or, or_true, true_and, and_true, z_tn, CellsOk, CallsOk, TextOk, MemOk, OutOk, Int32.lt_iff_toInt_lt, Int32.le_iff_toInt_le, ← Int32.toInt_inj, Int32.toInt_add, Int32.toInt_sub, Int32.toInt_mul, Int32.toInt_neg, zbm, zbm', tm1, t1, t7, t0, t100] at c1 c2 hi ⊢) <;> omega) _ _ _ hP hD hS (lv_sub hl [0, 1, 2, 3] rfl) hF
    · have hF := hF.trans (if_neg c2)
      refine lv_lload_n hx hb d_Out_eightBytes_12 rfl (lv_at hl 0 rfl) ?_
      exact W.lret (v := 0) hx hb hr (fun t ht hW => ⟨⟨_, (), rfl, ⟨hF.symm, trivial⟩, ⟨by rw [ht]; exact hP, va_K.moved hW.alike hK, hD⟩⟩, hS.F ht⟩) hS.2.2 d_Out_eightBytes_13
/-- the picture of ColonMachine$Out.saidByte -/
def F_Out_saidByte (n : Int32) (f : Nat → Int32) (x1 : Int32) : Int32 × Int32 × (Nat → Int32) := bd (F_Out_hasRoomFor n 1) (fun q1 => if q1 = 0 then ((-17), (n, f)) else (0, (n + 1, upd f n.toNatClampNeg (x1 &&& 255))))
theorem F_Out_saidByte_e (n : Int32) (f : Nat → Int32) (x1 : Int32) : F_Out_saidByte n f x1 = bd (F_Out_hasRoomFor n 1) (fun q1 => if q1 = 0 then ((-17), (n, f)) else (0, (n + 1, upd f n.toNatClampNeg (x1 &&& 255)))) := rfl
set_option maxHeartbeats 4000000 in
set_option maxRecDepth 100000 in
theorem c_Out_saidByte (l : Launch) (D : va_G) (cI cJ cZ cW cT : ClassId) (sz : Nat) (h : Nat) (a : Nat) (n : Int32) (f : Nat → Int32) (x1 : Int32) (hi : OutOk n) : Met l y_Out_saidByte w_Out_saidByte ({ frames := 1, cells := 0, slots := 0, locals := 21 }) (va_Pc [.ref h, .int x1] (zP D classes (TY cI cJ cZ cW cT) [(h, .inr (5, [.ref a, .int n])), (a, .inl (cI, 800, .inl f))] sz)) (va_Qi (fun (r : Int32) (u : Int32 × (Nat → Int32)) => (r, u) = F_Out_saidByte n f x1 ∧ ((OutOk u.1))) (fun u => zB D classes (TY cI cJ cZ cW cT) (va_A [(h, .inr (5, [.ref a, .int n])), (a, .inl (cI, 800, .inl f))] sz) [(h, .inr (5, [.ref a, .int u.1])), (a, .inl (cI, 800, .inl u.2))]) (va_A [(h, .inr (5, [.ref a, .int n])), (a, .inl (cI, 800, .inl f))] sz)) 0 0 (va_A [(h, .inr (5, [.ref a, .int n])), (a, .inl (cI, 800, .inl f))] sz) := by
  refine Met.ofW (cc := b_Out_saidByte) (maxL := 2) (ret := (some .int)) (by decide) rfl ?_
  intro p e s m args below meth c s₁ B hml hv
  obtain ⟨rfl, hsz, hP, hK, hD0, hE⟩ := hv
  have hx := B.exec
  have hb := B.bytes
  have hr := B.returns
  have hts := atoms_spec (ws := w_Out_saidByte) B.pre
  have hT : ∀ w ∈ TB, w.before _ s = true := fun w h => hts w (List.mem_cons_of_mem _ h)
  have hown : s.vm.findClass "ColonMachine$Out" = some m.cls := findClass_of_methodNamed B.named
  have hlocks := B.notSynchronized
  subst hsz
  have hD := hD0.self (sz := s.heap.size)
  generalize hAe : va_A [(h, .inr (5, [.ref a, .int n])), (a, .inl (cI, 800, .inl f))] s.heap.size = A at hD hE ⊢
  have hA : ∀ q : Nat, s.heap.size ≤ q → A q := fun q h => by rw [← hAe]; exact Or.inr h
  have hS : va_S A s.heap s.heap [] := va_S.rf
  have hl := lv_entry [.ref h, .int x1] (n := 2) (Nat.le_of_ble_eq_true rfl)
  rw [lg_entry_eq]
  generalize (lg_sl [.ref h, .int x1] ++ List.replicate (2 - (lg_sl [.ref h, .int x1]).length) Slot.unset).toArray = ls at hl ⊢
  have hl : lv_has ls 2 [(0, .ref h), (1, .int x1)] := hl
  have hF := F_Out_saidByte_e n f x1
  refine lv_aload_n hx hb d_Out_saidByte_0 rfl (lv_at hl 0 rfl) ?_
  refine lv_iconst (v := 1) hx hb d_Out_saidByte_1 (by decide) ?_
  refine kN_pi (wr := [(a, .inl (cI, 800, .inl f))]) (zV (wc := [(h, .inr (5, [.ref a, .int n]))]) (As := [.int 1]) (rest := []) (st0 := [.int 1, .ref h]) ⟨hx, hb, hml, hown, hT⟩ (c_Out_hasRoomFor l D cI cJ cZ cW cT s.heap.size h a n 1 hi) (cwV 1 hT (tbV ml_Out_19 im_Out_hasRoomFor se_Out_hasRoomFor in_Out co_Out_hasRoomFor) rfl rfl rfl v_Out_hasRoomFor ⟨Nat.le_of_ble_eq_true rfl, Nat.le_of_ble_eq_true rfl⟩) hK hE hP hD hS hA [0] rfl rfl 0 rfl rfl rfl hl.1 rfl (Nat.le_of_ble_eq_true rfl) d_Out_saidByte_2 ⟨Nat.le_of_ble_eq_true rfl, Nat.le_of_ble_eq_true rfl⟩) hP hD hS hA [0] [1] rfl rfl rfl (by decide) [1, 0] rfl rfl (fun q1 H locs e1 k1 hP hD hS => ?_)
  have hP : va_P D classes [(h, .inr (5, [.ref a, .int n])), (a, .inl (cI, 800, .inl f))] H := hP
  have hD : va_D A [(h, .inr (5, [.ref a, .int n])), (a, .inl (cI, 800, .inl f))] := hD
  have hF := hF.trans (bd_e e1)
  refine lv_if_ne (tgt := 11) hx hb d_Out_saidByte_5 (by decide) (fun c2 => ?_) (fun c2 => ?_)
  · have hF := hF.trans (if_neg c2)
    refine lv_aload_n hx hb d_Out_saidByte_11 rfl (lv_at hl 0 rfl) ?_
    refine va_get (D := D) (v := .ref a) (C := "ColonMachine$Out") (T := T_Out) (N := 2) hx hb hT i_Out hown hK hP 0 rfl rfl 0 (by decide) (hT _ fl_Out_11) (fun _ h9 => h9) rfl d_Out_saidByte_12 ?_
    refine lv_aload_n hx hb d_Out_saidByte_15 rfl (lv_at hl 0 rfl) ?_
    refine va_get (D := D) (v := .int n) (C := "ColonMachine$Out") (T := T_Out) (N := 2) hx hb hT i_Out hown hK hP 0 rfl rfl 1 (by decide) (hT _ fl_Out_15) (fun _ h9 => h9) rfl d_Out_saidByte_16 ?_
    refine lv_iload_n hx hb d_Out_saidByte_19 rfl (lv_at hl 1 rfl) ?_
    refine lv_sipush (v := 255) hx hb d_Out_saidByte_20 (by decide) ?_
    refine lv_iand hx hb d_Out_saidByte_23 ?_
    refine va_iast hx hb hK hP hD hS 1 0 rfl rfl (by have := ti_lo n; have := ti_hi n; have := ti_lo q1; have := ti_hi q1; have t800 : Int32.toInt 800 = 800 := rfl; have t0 : Int32.toInt 0 = 0 := rfl; have t1 : Int32.toInt 1 = 1 := rfl; rw [vp_in_iff]; (try simp only [true_or, or_true, true_and, and_true, z_tn, CellsOk, CallsOk, TextOk, MemOk, OutOk, Int32.lt_iff_toInt_lt, Int32.le_iff_toInt_le, ← Int32.toInt_inj, Int32.toInt_add, Int32.toInt_sub, Int32.toInt_mul, Int32.toInt_neg, zbm, zbm', t800, t0, t1] at c2 hi k1 ⊢) <;> omega) d_Out_saidByte_24 (fun H locs hP hD hS => ?_)
    have hP : va_P D classes [(h, .inr (5, [.ref a, .int n])), (a, .inl (cI, 800, .inl (upd f n.toNatClampNeg (x1 &&& 255))))] H := hP
    have hD : va_D A [(h, .inr (5, [.ref a, .int n])), (a, .inl (cI, 800, .inl (upd f n.toNatClampNeg (x1 &&& 255))))] := hD
    refine lv_aload_n hx hb d_Out_saidByte_25 rfl (lv_at hl 0 rfl) ?_
    refine lv_dup hx hb d_Out_saidByte_26 rfl ?_
    refine va_get (D := D) (v := .int n) (C := "ColonMachine$Out") (T := T_Out) (N := 2) hx hb hT i_Out hown hK hP 0 rfl rfl 1 (by decide) (hT _ fl_Out_15) (fun _ h9 => h9) rfl d_Out_saidByte_27 ?_
    refine lv_iconst (v := 1) hx hb d_Out_saidByte_30 (by decide) ?_
    refine lv_iadd hx hb d_Out_saidByte_31 ?_
    refine va_put (D := D) (v := .int (n + 1)) (ty := .int) (C := "ColonMachine$Out") (T := T_Out) (N := 2) hx hb hT i_Out t_Out tk_Out n_Out hown hK hP hD hS 0 rfl rfl 1 (by decide) (hT _ fl_Out_15) (fun _ h9 => h9) rfl (by decide +kernel) rfl rfl (Nat.le_of_ble_eq_true rfl) d_Out_saidByte_32 (fun H locs hP hD hS => ?_)
    have hP : va_P D classes [(h, .inr (5, [.ref a, .int (n + 1)])), (a, .inl (cI, 800, .inl (upd f n.toNatClampNeg (x1 &&& 255))))] H := hP
    have hD : va_D A [(h, .inr (5, [.ref a, .int (n + 1)])), (a, .inl (cI, 800, .inl (upd f n.toNatClampNeg (x1 &&& 255))))] := hD
    refine lv_iconst (v := 0) hx hb d_Out_saidByte_35 (by decide) ?_
    exact W.iret (v := 0) hx hb hr (fun t ht hW => ⟨⟨_, _, rfl, ⟨hF.symm, (by have := ti_lo n; have := ti_hi n; have := ti_lo q1; have := ti_hi q1; have t1 : Int32.toInt 1 = 1 := rfl; have t0 : Int32.toInt 0 = 0 := rfl; have t800 : Int32.toInt 800 = 800 := rfl; (try simp only [true_or, or_true, true_and, and_true, z_tn, CellsOk, CallsOk, TextOk, MemOk, OutOk, Int32.lt_iff_toInt_lt, Int32.le_iff_toInt_le, ← Int32.toInt_inj, Int32.toInt_add, Int32.toInt_sub, Int32.toInt_mul, Int32.toInt_neg, zbm, zbm', t1, t0, t800] at c2 hi k1 ⊢) <;> omega)⟩, ⟨by rw [ht]; exact hP, va_K.moved hW.alike hK, hD⟩⟩, hS.F ht⟩) hS.2.2 d_Out_saidByte_36
  · have hF := hF.trans (if_pos c2)
    refine lv_bipush (v := (-17)) hx hb d_Out_saidByte_8 (by decide) ?_
    exact W.iret (v := (-17)) hx hb hr (fun t ht hW => ⟨⟨_, _, rfl, ⟨hF.symm, hi⟩, ⟨by rw [ht]; exact hP, va_K.moved hW.alike hK, hD⟩⟩, hS.F ht⟩) hS.2.2 d_Out_saidByte_10
def F_Out_digitsOf_L6 (x1 : Int64) (x2 : Int32) : Nat → (Int64) → (Int32) → Int32
  | 0, _, _ => 0
  | k6 + 1, v4, v3 => if 0 < (lg_cmp v4 x1) then v3 else (if 32 ≤ v3 then v3 else (F_Out_digitsOf_L6 x1 x2 k6 (v4 * x2.toInt64) (v3 + 1)))
theorem F_Out_digitsOf_L6_s (x1 : Int64) (x2 : Int32) (k6 : Nat) (v4 : Int64) (v3 : Int32) : F_Out_digitsOf_L6 x1 x2 (k6 + 1) v4 v3 = if 0 < (lg_cmp v4 x1) then v3 else (if 32 ≤ v3 then v3 else (F_Out_digitsOf_L6 x1 x2 k6 (v4 * x2.toInt64) (v3 + 1))) := rfl
/-- the picture of ColonMachine$Out.digitsOf -/
def F_Out_digitsOf (x1 : Int64) (x2 : Int32) : Int32 := F_Out_digitsOf_L6 x1 x2 (((32 - (1 : Int32).toInt).toNat) + 1) x2.toInt64 1
theorem F_Out_digitsOf_e (x1 : Int64) (x2 : Int32) : F_Out_digitsOf x1 x2 = F_Out_digitsOf_L6 x1 x2 (((32 - (1 : Int32).toInt).toNat) + 1) x2.toInt64 1 := rfl
set_option maxHeartbeats 4000000 in
set_option maxRecDepth 100000 in
theorem c_Out_digitsOf (l : Launch) (D : va_G) (cI cJ cZ cW cT : ClassId) (sz : Nat) (x1 : Int64) (x2 : Int32)  : Met l y_Out_digitsOf w_Out_digitsOf ({ frames := 0, cells := 0, slots := 0, locals := 0 }) (va_Pc [.long x1, .int x2] (zP D classes (TY cI cJ cZ cW cT) [] sz)) (va_Qi (fun (r : Int32) (_ : Unit) => r = F_Out_digitsOf x1 x2 ∧ ((1 ≤ r.toInt ∧ r.toInt ≤ 32))) (fun _ => zB D classes (TY cI cJ cZ cW cT) (va_A [] sz) []) (va_A [] sz)) 0 0 (va_A [] sz) := by
  refine Met.ofW (cc := b_Out_digitsOf) (maxL := 6) (ret := (some .int)) (by decide) rfl ?_
  intro p e s m args below meth c s₁ B hml hv
  obtain ⟨rfl, hsz, hP, hK, hD0, hE⟩ := hv
  have hx := B.exec
  have hb := B.bytes
  have hr := B.returns
  have hts := atoms_spec (ws := w_Out_digitsOf) B.pre
  have hT : ∀ w ∈ TB, w.before _ s = true := fun w h => hts w (List.mem_cons_of_mem _ h)
  have hown : s.vm.findClass "ColonMachine$Out" = some m.cls := findClass_of_methodNamed B.named
  have hlocks := B.notSynchronized
  subst hsz
  have hD := hD0.self (sz := s.heap.size)
  generalize hAe : va_A [] s.heap.size = A at hD hE ⊢
  have hA : ∀ q : Nat, s.heap.size ≤ q → A q := fun q h => by rw [← hAe]; exact Or.inr h
  have hS : va_S A s.heap s.heap [] := va_S.rf
  have hl := lv_entry [.long x1, .int x2] (n := 6) (Nat.le_of_ble_eq_true rfl)
  rw [lg_entry_eq]
  generalize (lg_sl [.long x1, .int x2] ++ List.replicate (6 - (lg_sl [.long x1, .int x2]).length) Slot.unset).toArray = ls at hl ⊢
  have hl : lv_has ls 6 [(0, .long x1), (2, .int x2)] := hl
  have hF := F_Out_digitsOf_e x1 x2
  refine lv_iconst (v := 1) hx hb d_Out_digitsOf_0 (by decide) ?_
  refine lv_istore_n (lv' := [(3, .int 1), (0, .long x1), (2, .int x2)]) hx hb d_Out_digitsOf_1 rfl hl (by decide) rfl (fun ls hl => ?_)
  refine lv_iload_n hx hb d_Out_digitsOf_2 rfl (lv_at hl 2 rfl) ?_
  refine lv_i2l (v := x2.toInt64) hx hb d_Out_digitsOf_3 rfl ?_
  refine lv_lstore (lv' := [(4, .long x2.toInt64), (3, .int 1), (0, .long x1), (2, .int x2)]) hx hb d_Out_digitsOf_4 hl (by decide) rfl (fun ls hl => ?_)
  have loop : ∀ (k6 : Nat) (v4 : Int64) (v3 : Int32) (hk : (32 - v3.toInt).toNat < k6) (hw : 1 ≤ v3.toInt) (hw2 : v3.toInt ≤ 32) (H : Heap) (locs : List Loc) (ls : Array Slot) (hP : va_P D classes [] H) (hD : va_D A []) (hS : va_S A s.heap H locs) (hl : lv_has ls 6 [(4, .long v4), (3, .int v3), (0, .long x1), (2, .int x2)]) (hF : F_Out_digitsOf x1 x2 = F_Out_digitsOf_L6 x1 x2 k6 v4 v3), W p l e (headSpec w_Out_digitsOf ({ frames := 0, cells := 0, slots := 0, locals := 0 })).room s m (List.toArray [.long x1, .int x2]) below meth c H locs 0 0 (MQ below (va_Qi (fun (r : Int32) (_ : Unit) => r = F_Out_digitsOf x1 x2 ∧ ((1 ≤ r.toInt ∧ r.toInt ≤ 32))) (fun _ => zB D classes (TY cI cJ cZ cW cT) A []) A) (List.toArray [.long x1, .int x2]) s 0 0 A) (F0 m 6 ls []) := by
    intro k6
    induction k6 with
    | zero => intro v4 v3 hk; exact absurd hk (Nat.not_lt_zero _)
    | succ k6 ih =>
      intro v4 v3 hk hw hw2 H locs ls hP hD hS hl hF
      have hF := hF.trans (F_Out_digitsOf_L6_s x1 x2 k6 v4 v3)
      refine lv_lload hx hb d_Out_digitsOf_6 (lv_at hl 0 rfl) ?_
      refine lv_lload_n hx hb d_Out_digitsOf_8 rfl (lv_at hl 2 rfl) ?_
      refine W.lcmp hx hb d_Out_digitsOf_9 ?_
      refine lv_if_gt (tgt := 32) hx hb d_Out_digitsOf_10 (by decide) (fun c1 => ?_) (fun c1 => ?_)
      · have hF := hF.trans (if_pos c1)
        refine lv_iload_n hx hb d_Out_digitsOf_32 rfl (lv_at hl 1 rfl) ?_
        exact W.iret (v := v3) hx hb hr (fun t ht hW => ⟨⟨_, (), rfl, ⟨hF.symm, (by have t1 : Int32.toInt 1 = 1 := rfl; have t32 : Int32.toInt 32 = 32 := rfl; have t0 : Int32.toInt 0 = 0 := rfl; (try simp only [true_or, or_true, true_and, and_true, z_tn, CellsOk, CallsOk, TextOk, MemOk, OutOk, Int32.lt_iff_toInt_lt, Int32.le_iff_toInt_le, ← Int32.toInt_inj, Int32.toInt_add, Int32.toInt_sub, Int32.toInt_mul, Int32.toInt_neg, zbm, zbm', t1, t32, t0] at c1 hw hw2 ⊢) <;> omega)⟩, ⟨by rw [ht]; exact hP, va_K.moved hW.alike hK, hD⟩⟩, hS.F ht⟩) hS.2.2 d_Out_digitsOf_33
      · have hF := hF.trans (if_neg c1)
        refine lv_iload_n hx hb d_Out_digitsOf_13 rfl (lv_at hl 1 rfl) ?_
        refine lv_bipush (v := 32) hx hb d_Out_digitsOf_14 (by decide) ?_
        refine lv_icmp_ge (tgt := 32) hx hb d_Out_digitsOf_16 (by decide) (fun c2 => ?_) (fun c2 => ?_)
        · have hF := hF.trans (if_pos c2)
          refine lv_iload_n hx hb d_Out_digitsOf_32 rfl (lv_at hl 1 rfl) ?_
          exact W.iret (v := v3) hx hb hr (fun t ht hW => ⟨⟨_, (), rfl, ⟨hF.symm, (by have := ti_lo v3; have := ti_hi v3; have t1 : Int32.toInt 1 = 1 := rfl; have t32 : Int32.toInt 32 = 32 := rfl; have t0 : Int32.toInt 0 = 0 := rfl; (try simp only [true_or, or_true, true_and, and_true, z_tn, CellsOk, CallsOk, TextOk, MemOk, OutOk, Int32.lt_iff_toInt_lt, Int32.le_iff_toInt_le, ← Int32.toInt_inj, Int32.toInt_add, Int32.toInt_sub, Int32.toInt_mul, Int32.toInt_neg, zbm, zbm', t1, t32, t0] at c1 c2 hw hw2 ⊢) <;> omega)⟩, ⟨by rw [ht]; exact hP, va_K.moved hW.alike hK, hD⟩⟩, hS.F ht⟩) hS.2.2 d_Out_digitsOf_33
        · have hF := hF.trans (if_neg c2)
          refine lv_iinc (v := v3 + 1) (lv' := [(3, .int (v3 + 1)), (4, .long v4), (0, .long x1), (2, .int x2)]) hx hb d_Out_digitsOf_19 hl (k := 1) rfl rfl (by decide) rfl (fun ls hl => ?_)
          refine lv_lload hx hb d_Out_digitsOf_22 (lv_at hl 1 rfl) ?_
          refine lv_iload_n hx hb d_Out_digitsOf_24 rfl (lv_at hl 3 rfl) ?_
          refine lv_i2l (v := x2.toInt64) hx hb d_Out_digitsOf_25 rfl ?_
          refine lv_lmul hx hb d_Out_digitsOf_26 ?_
          refine lv_lstore (lv' := [(4, .long (v4 * x2.toInt64)), (3, .int (v3 + 1)), (0, .long x1), (2, .int x2)]) hx hb d_Out_digitsOf_27 hl (by decide) rfl (fun ls hl => ?_)
          refine lv_goto (tgt := 6) hx hb d_Out_digitsOf_29 (by decide) ?_
          exact ih (v4 * x2.toInt64) (v3 + 1) (by have := ti_lo v3; have := ti_hi v3; have t32 : Int32.toInt 32 = 32 := rfl; have t1 : Int32.toInt 1 = 1 := rfl; have t0 : Int32.toInt 0 = 0 := rfl; (try simp only [true_or, or_true, true_and, and_true, z_tn, CellsOk, CallsOk, TextOk, MemOk, OutOk, Int32.lt_iff_toInt_lt, Int32.le_iff_toInt_le, ← Int32.toInt_inj, Int32.toInt_add, Int32.toInt_sub, Int32.toInt_mul, Int32.toInt_neg, zbm, zbm', t32, t1, t0] at c1 c2 hw hw2 hk ⊢) <;> omega) (by have := ti_lo v3; have := ti_hi v3; have t1 : Int32.toInt 1 = 1 := rfl; have t32 : Int32.toInt 32 = 32 := rfl; have t0 : Int32.toInt 0 = 0 := rfl; (try simp only [true_or, or_true, true_and, and_true, z_tn, CellsOk, CallsOk, TextOk, MemOk, OutOk, Int32.lt_iff_toInt_lt, Int32.le_iff_toInt_le, ← Int32.toInt_inj, Int32.toInt_add, Int32.toInt_sub, Int32.toInt_mul, Int32.toInt_neg, zbm, zbm', t1, t32, t0] at c1 c2 hw hw2 ⊢) <;> omega) (by have := ti_lo v3; have := ti_hi v3; have t1 : Int32.toInt 1 = 1 := rfl; have t32 : Int32.toInt 32 = 32 := rfl; have t0 : Int32.toInt 0 = 0 := rfl; (try simp only [true_or, or_true, true_and, and_true, z_tn, CellsOk, CallsOk, TextOk, MemOk, OutOk, Int32.lt_iff_toInt_lt, Int32.le_iff_toInt_le, ← Int32.toInt_inj, Int32.toInt_add, Int32.toInt_sub, Int32.toInt_mul, Int32.toInt_neg, zbm, zbm', t1, t32, t0] at c1 c2 hw hw2 ⊢) <;> omega) _ _ _ hP hD hS (lv_sub hl [0, 1, 2, 3] rfl) hF
  exact loop (((32 - (1 : Int32).toInt).toNat) + 1) x2.toInt64 1 (Nat.lt_succ_self _) (by have t1 : Int32.toInt 1 = 1 := rfl; (try simp only [true_or, or_true, true_and, and_true, z_tn, CellsOk, CallsOk, TextOk, MemOk, OutOk, Int32.lt_iff_toInt_lt, Int32.le_iff_toInt_le, ← Int32.toInt_inj, Int32.toInt_add, Int32.toInt_sub, Int32.toInt_mul, Int32.toInt_neg, zbm, zbm', t1] at  ⊢) <;> omega) (by have t1 : Int32.toInt 1 = 1 := rfl; have t32 : Int32.toInt 32 = 32 := rfl; (try simp only [true_or, or_true, true_and, and_true, z_tn, CellsOk, CallsOk, TextOk, MemOk, OutOk, Int32.lt_iff_toInt_lt, Int32.le_iff_toInt_le, ← Int32.toInt_inj, Int32.toInt_add, Int32.toInt_sub, Int32.toInt_mul, Int32.toInt_neg, zbm, zbm', t1, t32] at  ⊢) <;> omega) _ _ _ hP hD hS (lv_sub hl [0, 1, 2, 3] rfl) hF
def F_Out_saidNumber_L88 (n : Int32) (x2 : Int32) (q5 : Int32) : Nat → (Int32) → (Int64) → (Nat → Int32) → Int32 × Int32 × (Nat → Int32)
  | 0, _, _, _ => (0, (0, (fun _ => 0)))
  | k88 + 1, v8, v4, z1_f => if v8 < 0 then (0, (n + ((0 + q5) + 1), upd z1_f ((n + 0) + q5).toNatClampNeg 32)) else (if 10 ≤ ((v4 - v4 / x2.toInt64 * x2.toInt64).toInt32) then (F_Out_saidNumber_L88 n x2 q5 k88 (v8 + (-1)) (v4 / x2.toInt64) (upd z1_f (n + v8).toNatClampNeg ((97 + ((v4 - v4 / x2.toInt64 * x2.toInt64).toInt32)) - 10))) else (F_Out_saidNumber_L88 n x2 q5 k88 (v8 + (-1)) (v4 / x2.toInt64) (upd z1_f (n + v8).toNatClampNeg (48 + ((v4 - v4 / x2.toInt64 * x2.toInt64).toInt32)))))
theorem F_Out_saidNumber_L88_s (n : Int32) (x2 : Int32) (q5 : Int32) (k88 : Nat) (v8 : Int32) (v4 : Int64) (z1_f : Nat → Int32) : F_Out_saidNumber_L88 n x2 q5 (k88 + 1) v8 v4 z1_f = if v8 < 0 then (0, (n + ((0 + q5) + 1), upd z1_f ((n + 0) + q5).toNatClampNeg 32)) else (if 10 ≤ ((v4 - v4 / x2.toInt64 * x2.toInt64).toInt32) then (F_Out_saidNumber_L88 n x2 q5 k88 (v8 + (-1)) (v4 / x2.toInt64) (upd z1_f (n + v8).toNatClampNeg ((97 + ((v4 - v4 / x2.toInt64 * x2.toInt64).toInt32)) - 10))) else (F_Out_saidNumber_L88 n x2 q5 k88 (v8 + (-1)) (v4 / x2.toInt64) (upd z1_f (n + v8).toNatClampNeg (48 + ((v4 - v4 / x2.toInt64 * x2.toInt64).toInt32))))) := rfl
def F_Out_saidNumber_L88b (n : Int32) (x2 : Int32) (q12 : Int32) : Nat → (Int32) → (Int64) → (Nat → Int32) → Int32 × Int32 × (Nat → Int32)
  | 0, _, _, _ => (0, (0, (fun _ => 0)))
  | k88 + 1, v8, v4, z1_f => if v8 < 1 then (0, (n + ((1 + q12) + 1), upd z1_f ((n + 1) + q12).toNatClampNeg 32)) else (if 10 ≤ ((v4 - v4 / x2.toInt64 * x2.toInt64).toInt32) then (F_Out_saidNumber_L88b n x2 q12 k88 (v8 + (-1)) (v4 / x2.toInt64) (upd z1_f (n + v8).toNatClampNeg ((97 + ((v4 - v4 / x2.toInt64 * x2.toInt64).toInt32)) - 10))) else (F_Out_saidNumber_L88b n x2 q12 k88 (v8 + (-1)) (v4 / x2.toInt64) (upd z1_f (n + v8).toNatClampNeg (48 + ((v4 - v4 / x2.toInt64 * x2.toInt64).toInt32)))))
theorem F_Out_saidNumber_L88b_s (n : Int32) (x2 : Int32) (q12 : Int32) (k88 : Nat) (v8 : Int32) (v4 : Int64) (z1_f : Nat → Int32) : F_Out_saidNumber_L88b n x2 q12 (k88 + 1) v8 v4 z1_f = if v8 < 1 then (0, (n + ((1 + q12) + 1), upd z1_f ((n + 1) + q12).toNatClampNeg 32)) else (if 10 ≤ ((v4 - v4 / x2.toInt64 * x2.toInt64).toInt32) then (F_Out_saidNumber_L88b n x2 q12 k88 (v8 + (-1)) (v4 / x2.toInt64) (upd z1_f (n + v8).toNatClampNeg ((97 + ((v4 - v4 / x2.toInt64 * x2.toInt64).toInt32)) - 10))) else (F_Out_saidNumber_L88b n x2 q12 k88 (v8 + (-1)) (v4 / x2.toInt64) (upd z1_f (n + v8).toNatClampNeg (48 + ((v4 - v4 / x2.toInt64 * x2.toInt64).toInt32))))) := rfl
/-- the picture of ColonMachine$Out.saidNumber -/
def F_Out_saidNumber (n : Int32) (f : Nat → Int32) (x1 : Int64) (x2 : Int32) : Int32 × Int32 × (Nat → Int32) := bd (F_Memory_isBase x2) (fun q1 => if q1 = 0 then ((-40), (n, f)) else (if 0 ≤ (lg_cmp x1 (0 : Int64)) then (bd (F_Out_digitsOf x1 x2) (fun q5 => bd (F_Out_hasRoomFor n ((0 + q5) + 1)) (fun q6 => if q6 = 0 then ((-17), (n, f)) else (F_Out_saidNumber_L88 n x2 q5 (((((0 + q5) - 1).toInt + 1).toNat) + 1) ((0 + q5) - 1) x1 f)))) else (bd (F_Out_digitsOf (-x1) x2) (fun q12 => bd (F_Out_hasRoomFor n ((1 + q12) + 1)) (fun q13 => if q13 = 0 then ((-17), (n, f)) else (F_Out_saidNumber_L88b n x2 q12 (((((1 + q12) - 1).toInt + 1).toNat) + 1) ((1 + q12) - 1) (-x1) (upd f n.toNatClampNeg 45)))))))
theorem F_Out_saidNumber_e (n : Int32) (f : Nat → Int32) (x1 : Int64) (x2 : Int32) : F_Out_saidNumber n f x1 x2 = bd (F_Memory_isBase x2) (fun q1 => if q1 = 0 then ((-40), (n, f)) else (if 0 ≤ (lg_cmp x1 (0 : Int64)) then (bd (F_Out_digitsOf x1 x2) (fun q5 => bd (F_Out_hasRoomFor n ((0 + q5) + 1)) (fun q6 => if q6 = 0 then ((-17), (n, f)) else (F_Out_saidNumber_L88 n x2 q5 (((((0 + q5) - 1).toInt + 1).toNat) + 1) ((0 + q5) - 1) x1 f)))) else (bd (F_Out_digitsOf (-x1) x2) (fun q12 => bd (F_Out_hasRoomFor n ((1 + q12) + 1)) (fun q13 => if q13 = 0 then ((-17), (n, f)) else (F_Out_saidNumber_L88b n x2 q12 (((((1 + q12) - 1).toInt + 1).toNat) + 1) ((1 + q12) - 1) (-x1) (upd f n.toNatClampNeg 45))))))) := rfl
set_option maxHeartbeats 4000000 in
set_option maxRecDepth 100000 in
theorem c_Out_saidNumber (l : Launch) (D : va_G) (cI cJ cZ cW cT : ClassId) (sz : Nat) (h : Nat) (a : Nat) (n : Int32) (f : Nat → Int32) (x1 : Int64) (x2 : Int32) (hi : OutOk n) : Met l y_Out_saidNumber w_Out_saidNumber ({ frames := 1, cells := 0, slots := 0, locals := 25 }) (va_Pc [.ref h, .long x1, .int x2] (zP D classes (TY cI cJ cZ cW cT) [(h, .inr (5, [.ref a, .int n])), (a, .inl (cI, 800, .inl f))] sz)) (va_Qi (fun (r : Int32) (u : Int32 × (Nat → Int32)) => (r, u) = F_Out_saidNumber n f x1 x2 ∧ ((OutOk u.1))) (fun u => zB D classes (TY cI cJ cZ cW cT) (va_A [(h, .inr (5, [.ref a, .int n])), (a, .inl (cI, 800, .inl f))] sz) [(h, .inr (5, [.ref a, .int u.1])), (a, .inl (cI, 800, .inl u.2))]) (va_A [(h, .inr (5, [.ref a, .int n])), (a, .inl (cI, 800, .inl f))] sz)) 0 0 (va_A [(h, .inr (5, [.ref a, .int n])), (a, .inl (cI, 800, .inl f))] sz) := by
  refine Met.ofW (cc := b_Out_saidNumber) (maxL := 10) (ret := (some .int)) (by decide) rfl ?_
  intro p e s m args below meth c s₁ B hml hv
  obtain ⟨rfl, hsz, hP, hK, hD0, hE⟩ := hv
  have hx := B.exec
  have hb := B.bytes
  have hr := B.returns
  have hts := atoms_spec (ws := w_Out_saidNumber) B.pre
  have hT : ∀ w ∈ TB, w.before _ s = true := fun w h => hts w (List.mem_cons_of_mem _ h)
  have hown : s.vm.findClass "ColonMachine$Out" = some m.cls := findClass_of_methodNamed B.named
  have hlocks := B.notSynchronized
  subst hsz
  have hD := hD0.self (sz := s.heap.size)
  generalize hAe : va_A [(h, .inr (5, [.ref a, .int n])), (a, .inl (cI, 800, .inl f))] s.heap.size = A at hD hE ⊢
  have hA : ∀ q : Nat, s.heap.size ≤ q → A q := fun q h => by rw [← hAe]; exact Or.inr h
  have hS : va_S A s.heap s.heap [] := va_S.rf
  have hl := lv_entry [.ref h, .long x1, .int x2] (n := 10) (Nat.le_of_ble_eq_true rfl)
  rw [lg_entry_eq]
  generalize (lg_sl [.ref h, .long x1, .int x2] ++ List.replicate (10 - (lg_sl [.ref h, .long x1, .int x2]).length) Slot.unset).toArray = ls at hl ⊢
  have hl : lv_has ls 10 [(0, .ref h), (1, .long x1), (3, .int x2)] := hl
  have hF := F_Out_saidNumber_e n f x1 x2
  refine lv_iload_n hx hb d_Out_saidNumber_0 rfl (lv_at hl 2 rfl) ?_
  refine kN_pi (wr := [(h, .inr (5, [.ref a, .int n])), (a, .inl (cI, 800, .inl f))]) (zS (wc := []) (As := [.int x2]) (rest := []) (st0 := [.int x2]) ⟨hx, hb, hml, hown, hT⟩ (c_Memory_isBase l D cI cJ cZ cW cT s.heap.size x2) (va_cwS 1 hT (tbS ml_Out_29 sm_Memory_isBase in_Memory co_Memory_isBase) rfl rfl rfl vs_Memory_isBase ⟨Nat.le_of_ble_eq_true rfl, Nat.le_of_ble_eq_true rfl⟩) hK hE hP hD hS hA [] rfl rfl rfl hl.1 rfl (Nat.le_of_ble_eq_true rfl) d_Out_saidNumber_1 ⟨Nat.le_of_ble_eq_true rfl, Nat.le_of_ble_eq_true rfl⟩) hP hD hS hA [] [0, 1] rfl rfl rfl (by decide) [0, 1] rfl rfl (fun q1 H locs e1 k1 hP hD hS => ?_)
  have hP : va_P D classes [(h, .inr (5, [.ref a, .int n])), (a, .inl (cI, 800, .inl f))] H := hP
  have hD : va_D A [(h, .inr (5, [.ref a, .int n])), (a, .inl (cI, 800, .inl f))] := hD
  have hF := hF.trans (bd_e e1)
  refine lv_if_ne (tgt := 10) hx hb d_Out_saidNumber_4 (by decide) (fun c2 => ?_) (fun c2 => ?_)
  · have hF := hF.trans (if_neg c2)
    refine lv_lload_n hx hb d_Out_saidNumber_10 rfl (lv_at hl 1 rfl) ?_
    refine lv_lconst (v := 0) hx hb d_Out_saidNumber_11 (by decide) ?_
    refine W.lcmp hx hb d_Out_saidNumber_12 ?_
    refine lv_if_ge (tgt := 21) hx hb d_Out_saidNumber_13 (by decide) (fun c3 => ?_) (fun c3 => ?_)
    · have hF := hF.trans (if_pos c3)
      refine lv_lload_n hx hb d_Out_saidNumber_21 rfl (lv_at hl 1 rfl) ?_
      refine lv_lstore (lv' := [(4, .long x1), (0, .ref h), (1, .long x1), (3, .int x2)]) hx hb d_Out_saidNumber_22 hl (by decide) rfl (fun ls hl => ?_)
      refine lv_lload_n hx hb d_Out_saidNumber_24 rfl (lv_at hl 2 rfl) ?_
      refine lv_lconst (v := 0) hx hb d_Out_saidNumber_25 (by decide) ?_
      refine W.lcmp hx hb d_Out_saidNumber_26 ?_
      refine lv_if_ge (tgt := 34) hx hb d_Out_saidNumber_27 (by decide) (fun c4 => ?_) (fun c4 => ?_)
      · refine lv_iconst (v := 0) hx hb d_Out_saidNumber_34 (by decide) ?_
        refine lv_istore (lv' := [(6, .int 0), (4, .long x1), (0, .ref h), (1, .long x1), (3, .int x2)]) hx hb d_Out_saidNumber_35 hl (by decide) rfl (fun ls hl => ?_)
        refine lv_lload hx hb d_Out_saidNumber_37 (lv_at hl 1 rfl) ?_
        refine lv_iload_n hx hb d_Out_saidNumber_39 rfl (lv_at hl 4 rfl) ?_
        refine kN_pi (wr := [(h, .inr (5, [.ref a, .int n])), (a, .inl (cI, 800, .inl f))]) (zS (wc := []) (As := [.long x1, .int x2]) (rest := []) (st0 := [.int x2, .long x1]) ⟨hx, hb, hml, hown, hT⟩ (c_Out_digitsOf l D cI cJ cZ cW cT H.size x1 x2) (va_cwS 2 hT (tbS ml_Out_34 sm_Out_digitsOf in_Out co_Out_digitsOf) rfl rfl rfl vs_Out_digitsOf ⟨Nat.le_of_ble_eq_true rfl, Nat.le_of_ble_eq_true rfl⟩) hK hE hP hD hS hA [] rfl rfl rfl hl.1 rfl (Nat.le_of_ble_eq_true rfl) d_Out_saidNumber_40 ⟨Nat.le_of_ble_eq_true rfl, Nat.le_of_ble_eq_true rfl⟩) hP hD hS hA [] [0, 1] rfl rfl rfl (by decide) [0, 1] rfl rfl (fun q5 H locs e5 k5 hP hD hS => ?_)
        have hP : va_P D classes [(h, .inr (5, [.ref a, .int n])), (a, .inl (cI, 800, .inl f))] H := hP
        have hD : va_D A [(h, .inr (5, [.ref a, .int n])), (a, .inl (cI, 800, .inl f))] := hD
        have hF := hF.trans (bd_e e5)
        refine lv_istore (lv' := [(7, .int q5), (6, .int 0), (4, .long x1), (0, .ref h), (1, .long x1), (3, .int x2)]) hx hb d_Out_saidNumber_43 hl (by decide) rfl (fun ls hl => ?_)
        refine lv_aload_n hx hb d_Out_saidNumber_45 rfl (lv_at hl 3 rfl) ?_
        refine lv_iload hx hb d_Out_saidNumber_46 (lv_at hl 1 rfl) ?_
        refine lv_iload hx hb d_Out_saidNumber_48 (lv_at hl 0 rfl) ?_
        refine lv_iadd hx hb d_Out_saidNumber_50 ?_
        refine lv_iconst (v := 1) hx hb d_Out_saidNumber_51 (by decide) ?_
        refine lv_iadd hx hb d_Out_saidNumber_52 ?_
        refine kN_pi (wr := [(a, .inl (cI, 800, .inl f))]) (zV (wc := [(h, .inr (5, [.ref a, .int n]))]) (As := [.int ((0 + q5) + 1)]) (rest := []) (st0 := [.int ((0 + q5) + 1), .ref h]) ⟨hx, hb, hml, hown, hT⟩ (c_Out_hasRoomFor l D cI cJ cZ cW cT H.size h a n ((0 + q5) + 1) hi) (cwV 1 hT (tbV ml_Out_19 im_Out_hasRoomFor se_Out_hasRoomFor in_Out co_Out_hasRoomFor) rfl rfl rfl v_Out_hasRoomFor ⟨Nat.le_of_ble_eq_true rfl, Nat.le_of_ble_eq_true rfl⟩) hK hE hP hD hS hA [0] rfl rfl 0 rfl rfl rfl hl.1 rfl (Nat.le_of_ble_eq_true rfl) d_Out_saidNumber_53 ⟨Nat.le_of_ble_eq_true rfl, Nat.le_of_ble_eq_true rfl⟩) hP hD hS hA [0] [1] rfl rfl rfl (by decide) [1, 0] rfl rfl (fun q6 H locs e6 k6 hP hD hS => ?_)
        have hP : va_P D classes [(h, .inr (5, [.ref a, .int n])), (a, .inl (cI, 800, .inl f))] H := hP
        have hD : va_D A [(h, .inr (5, [.ref a, .int n])), (a, .inl (cI, 800, .inl f))] := hD
        have hF := hF.trans (bd_e e6)
        refine lv_if_ne (tgt := 62) hx hb d_Out_saidNumber_56 (by decide) (fun c7 => ?_) (fun c7 => ?_)
        · have hF := hF.trans (if_neg c7)
          refine lv_iload hx hb d_Out_saidNumber_62 (lv_at hl 1 rfl) ?_
          refine lv_iconst (v := 1) hx hb d_Out_saidNumber_64 (by decide) ?_
          refine lv_icmp_ne (tgt := 79) hx hb d_Out_saidNumber_65 (by decide) (fun c8 => ?_) (fun c8 => ?_)
          · refine lv_iload hx hb d_Out_saidNumber_79 (lv_at hl 1 rfl) ?_
            refine lv_iload hx hb d_Out_saidNumber_81 (lv_at hl 0 rfl) ?_
            refine lv_iadd hx hb d_Out_saidNumber_83 ?_
            refine lv_iconst (v := 1) hx hb d_Out_saidNumber_84 (by decide) ?_
            refine lv_isub hx hb d_Out_saidNumber_85 ?_
            refine lv_istore (lv' := [(8, .int ((0 + q5) - 1)), (7, .int q5), (6, .int 0), (4, .long x1), (0, .ref h), (1, .long x1), (3, .int x2)]) hx hb d_Out_saidNumber_86 hl (by decide) rfl (fun ls hl => ?_)
            have loop : ∀ (k88 : Nat) (v8 : Int32) (v4 : Int64) (z1_f : Nat → Int32) (hk : (v8.toInt + 1).toNat < k88) (hw : -1 ≤ v8.toInt) (hw2 : v8.toInt < q5.toInt + 0) (H : Heap) (locs : List Loc) (ls : Array Slot) (hP : va_P D classes [(h, .inr (5, [.ref a, .int n])), (a, .inl (cI, 800, .inl z1_f))] H) (hD : va_D A [(h, .inr (5, [.ref a, .int n])), (a, .inl (cI, 800, .inl z1_f))]) (hS : va_S A s.heap H locs) (hl : lv_has ls 10 [(8, .int v8), (7, .int q5), (6, .int 0), (4, .long v4), (0, .ref h), (1, .long x1), (3, .int x2)]) (hF : F_Out_saidNumber n f x1 x2 = F_Out_saidNumber_L88 n x2 q5 k88 v8 v4 z1_f), W p l e (headSpec w_Out_saidNumber ({ frames := 1, cells := 0, slots := 0, locals := 25 })).room s m (List.toArray [.ref h, .long x1, .int x2]) below meth c H locs 0 0 (MQ below (va_Qi (fun (r : Int32) (u : Int32 × (Nat → Int32)) => (r, u) = F_Out_saidNumber n f x1 x2 ∧ ((OutOk u.1))) (fun u => zB D classes (TY cI cJ cZ cW cT) A [(h, .inr (5, [.ref a, .int u.1])), (a, .inl (cI, 800, .inl u.2))]) A) (List.toArray [.ref h, .long x1, .int x2]) s 0 0 A) (F0 m 88 ls []) := by
              intro k88
              induction k88 with
              | zero => intro v8 v4 z1_f hk; exact absurd hk (Nat.not_lt_zero _)
              | succ k88 ih =>
                intro v8 v4 z1_f hk hw hw2 H locs ls hP hD hS hl hF
                have hF := hF.trans (F_Out_saidNumber_L88_s n x2 q5 k88 v8 v4 z1_f)
                refine lv_iload hx hb d_Out_saidNumber_88 (lv_at hl 0 rfl) ?_
                refine lv_iload hx hb d_Out_saidNumber_90 (lv_at hl 2 rfl) ?_
                refine lv_icmp_lt (tgt := 151) hx hb d_Out_saidNumber_92 (by decide) (fun c9 => ?_) (fun c9 => ?_)
                · have hF := hF.trans (if_pos c9)
                  refine lv_aload_n hx hb d_Out_saidNumber_151 rfl (lv_at hl 4 rfl) ?_
                  refine va_get (D := D) (v := .ref a) (C := "ColonMachine$Out") (T := T_Out) (N := 2) hx hb hT i_Out hown hK hP 0 rfl rfl 0 (by decide) (hT _ fl_Out_11) (fun _ h9 => h9) rfl d_Out_saidNumber_152 ?_
                  refine lv_aload_n hx hb d_Out_saidNumber_155 rfl (lv_at hl 4 rfl) ?_
                  refine va_get (D := D) (v := .int n) (C := "ColonMachine$Out") (T := T_Out) (N := 2) hx hb hT i_Out hown hK hP 0 rfl rfl 1 (by decide) (hT _ fl_Out_15) (fun _ h9 => h9) rfl d_Out_saidNumber_156 ?_
                  refine lv_iload hx hb d_Out_saidNumber_159 (lv_at hl 2 rfl) ?_
                  refine lv_iadd hx hb d_Out_saidNumber_161 ?_
                  refine lv_iload hx hb d_Out_saidNumber_162 (lv_at hl 1 rfl) ?_
                  refine lv_iadd hx hb d_Out_saidNumber_164 ?_
                  refine lv_bipush (v := 32) hx hb d_Out_saidNumber_165 (by decide) ?_
                  refine va_iast hx hb hK hP hD hS 1 0 rfl rfl (by have := ti_lo n; have := ti_hi n; have := ti_lo q5; have := ti_hi q5; have := ti_lo x2; have := ti_hi x2; have := ti_lo q1; have := ti_hi q1; have := ti_lo q6; have := ti_hi q6; have := ti_lo v8; have := ti_hi v8; have t0 : Int32.toInt 0 = 0 := rfl; have t800 : Int32.toInt 800 = 800 := rfl; have tm1 : Int32.toInt (-1) = -1 := rfl; have t1 : Int32.toInt 1 = 1 := rfl; have t2 : Int32.toInt 2 = 2 := rfl; have t36 : Int32.toInt 36 = 36 := rfl; have t32 : Int32.toInt 32 = 32 := rfl; rw [vp_in_iff]; (try simp only [true_or, or_true, true_and, and_true, z_tn, CellsOk, CallsOk, TextOk, MemOk, OutOk, Int32.lt_iff_toInt_lt, Int32.le_iff_toInt_le, ← Int32.toInt_inj, Int32.toInt_add, Int32.toInt_sub, Int32.toInt_mul, Int32.toInt_neg, zbm, zbm', t0, t800, tm1, t1, t2, t36, t32] at c2 c3 c7 c9 hi hw hw2 k1 k5 k6 ⊢) <;> omega) d_Out_saidNumber_167 (fun H locs hP hD hS => ?_)
                  have hP : va_P D classes [(h, .inr (5, [.ref a, .int n])), (a, .inl (cI, 800, .inl (upd z1_f ((n + 0) + q5).toNatClampNeg 32)))] H := hP
                  have hD : va_D A [(h, .inr (5, [.ref a, .int n])), (a, .inl (cI, 800, .inl (upd z1_f ((n + 0) + q5).toNatClampNeg 32)))] := hD
                  refine lv_aload_n hx hb d_Out_saidNumber_168 rfl (lv_at hl 4 rfl) ?_
                  refine lv_dup hx hb d_Out_saidNumber_169 rfl ?_
                  refine va_get (D := D) (v := .int n) (C := "ColonMachine$Out") (T := T_Out) (N := 2) hx hb hT i_Out hown hK hP 0 rfl rfl 1 (by decide) (hT _ fl_Out_15) (fun _ h9 => h9) rfl d_Out_saidNumber_170 ?_
                  refine lv_iload hx hb d_Out_saidNumber_173 (lv_at hl 2 rfl) ?_
                  refine lv_iload hx hb d_Out_saidNumber_175 (lv_at hl 1 rfl) ?_
                  refine lv_iadd hx hb d_Out_saidNumber_177 ?_
                  refine lv_iconst (v := 1) hx hb d_Out_saidNumber_178 (by decide) ?_
                  refine lv_iadd hx hb d_Out_saidNumber_179 ?_
                  refine lv_iadd hx hb d_Out_saidNumber_180 ?_
                  refine va_put (D := D) (v := .int (n + ((0 + q5) + 1))) (ty := .int) (C := "ColonMachine$Out") (T := T_Out) (N := 2) hx hb hT i_Out t_Out tk_Out n_Out hown hK hP hD hS 0 rfl rfl 1 (by decide) (hT _ fl_Out_15) (fun _ h9 => h9) rfl (by decide +kernel) rfl rfl (Nat.le_of_ble_eq_true rfl) d_Out_saidNumber_181 (fun H locs hP hD hS => ?_)
                  have hP : va_P D classes [(h, .inr (5, [.ref a, .int (n + ((0 + q5) + 1))])), (a, .inl (cI, 800, .inl (upd z1_f ((n + 0) + q5).toNatClampNeg 32)))] H := hP
                  have hD : va_D A [(h, .inr (5, [.ref a, .int (n + ((0 + q5) + 1))])), (a, .inl (cI, 800, .inl (upd z1_f ((n + 0) + q5).toNatClampNeg 32)))] := hD
                  refine lv_iconst (v := 0) hx hb d_Out_saidNumber_184 (by decide) ?_
                  exact W.iret (v := 0) hx hb hr (fun t ht hW => ⟨⟨_, _, rfl, ⟨hF.symm, (by have := ti_lo n; have := ti_hi n; have := ti_lo q5; have := ti_hi q5; have := ti_lo x2; have := ti_hi x2; have := ti_lo q1; have := ti_hi q1; have := ti_lo q6; have := ti_hi q6; have := ti_lo v8; have := ti_hi v8; have t0 : Int32.toInt 0 = 0 := rfl; have t1 : Int32.toInt 1 = 1 := rfl; have tm1 : Int32.toInt (-1) = -1 := rfl; have t2 : Int32.toInt 2 = 2 := rfl; have t36 : Int32.toInt 36 = 36 := rfl; have t32 : Int32.toInt 32 = 32 := rfl; have t800 : Int32.toInt 800 = 800 := rfl; (try simp only [true_or, or_true, true_and, and_true, z_tn, CellsOk, CallsOk, TextOk, MemOk, OutOk, Int32.lt_iff_toInt_lt, Int32.le_iff_toInt_le, ← Int32.toInt_inj, Int32.toInt_add, Int32.toInt_sub, Int32.toInt_mul, Int32.toInt_neg, zbm, zbm', t0, t1, tm1, t2, t36, t32, t800] at c2 c3 c7 c9 hi hw hw2 k1 k5 k6 ⊢) <;> omega)⟩, ⟨by rw [ht]; exact hP, va_K.moved hW.alike hK, hD⟩⟩, hS.F ht⟩) hS.2.2 d_Out_saidNumber_185
                · have hF := hF.trans (if_neg c9)
                  refine lv_lload hx hb d_Out_saidNumber_95 (lv_at hl 3 rfl) ?_
                  refine lv_iload_n hx hb d_Out_saidNumber_97 rfl (lv_at hl 6 rfl) ?_
                  refine lv_i2l (v := x2.toInt64) hx hb d_Out_saidNumber_98 rfl ?_
                  refine lv_lrem hx hb d_Out_saidNumber_99 (z_l0 (by have := ti_lo n; have := ti_hi n; have := ti_lo x2; have := ti_hi x2; have := ti_lo q1; have := ti_hi q1; have := ti_lo q5; have := ti_hi q5; have := ti_lo q6; have := ti_hi q6; have := ti_lo v8; have := ti_hi v8; have t2 : Int32.toInt 2 = 2 := rfl; have t0 : Int32.toInt 0 = 0 := rfl; have tm1 : Int32.toInt (-1) = -1 := rfl; have t1 : Int32.toInt 1 = 1 := rfl; have t36 : Int32.toInt 36 = 36 := rfl; have t32 : Int32.toInt 32 = 32 := rfl; have t800 : Int32.toInt 800 = 800 := rfl; (try simp only [true_or, or_true, true_and, and_true, z_tn, CellsOk, CallsOk, TextOk, MemOk, OutOk, Int32.lt_iff_toInt_lt, Int32.le_iff_toInt_le, ← Int32.toInt_inj, Int32.toInt_add, Int32.toInt_sub, Int32.toInt_mul, Int32.toInt_neg, zbm, zbm', t2, t0, tm1, t1, t36, t32, t800] at c2 c3 c7 c9 hi hw hw2 k1 k5 k6 ⊢) <;> omega)) ?_
                  refine lv_l2i (v := (v4 - v4 / x2.toInt64 * x2.toInt64).toInt32) hx hb d_Out_saidNumber_100 rfl ?_
                  refine lv_istore (lv' := [(9, .int ((v4 - v4 / x2.toInt64 * x2.toInt64).toInt32)), (8, .int v8), (7, .int q5), (6, .int 0), (4, .long v4), (0, .ref h), (1, .long x1), (3, .int x2)]) hx hb d_Out_saidNumber_101 hl (by decide) rfl (fun ls hl => ?_)
                  refine lv_aload_n hx hb d_Out_saidNumber_103 rfl (lv_at hl 5 rfl) ?_
                  refine va_get (D := D) (v := .ref a) (C := "ColonMachine$Out") (T := T_Out) (N := 2) hx hb hT i_Out hown hK hP 0 rfl rfl 0 (by decide) (hT _ fl_Out_11) (fun _ h9 => h9) rfl d_Out_saidNumber_104 ?_
                  refine lv_aload_n hx hb d_Out_saidNumber_107 rfl (lv_at hl 5 rfl) ?_
                  refine va_get (D := D) (v := .int n) (C := "ColonMachine$Out") (T := T_Out) (N := 2) hx hb hT i_Out hown hK hP 0 rfl rfl 1 (by decide) (hT _ fl_Out_15) (fun _ h9 => h9) rfl d_Out_saidNumber_108 ?_
                  refine lv_iload hx hb d_Out_saidNumber_111 (lv_at hl 1 rfl) ?_
                  refine lv_iadd hx hb d_Out_saidNumber_113 ?_
                  refine lv_iload hx hb d_Out_saidNumber_114 (lv_at hl 0 rfl) ?_
                  refine lv_bipush (v := 10) hx hb d_Out_saidNumber_116 (by decide) ?_
                  refine lv_icmp_ge (tgt := 129) hx hb d_Out_saidNumber_118 (by decide) (fun c10 => ?_) (fun c10 => ?_)
                  · have hF := hF.trans (if_pos c10)
                    refine lv_bipush (v := 97) hx hb d_Out_saidNumber_129 (by decide) ?_
                    refine lv_iload hx hb d_Out_saidNumber_131 (lv_at hl 0 rfl) ?_
                    refine lv_iadd hx hb d_Out_saidNumber_133 ?_
                    refine lv_bipush (v := 10) hx hb d_Out_saidNumber_134 (by decide) ?_
                    refine lv_isub hx hb d_Out_saidNumber_136 ?_
                    refine va_iast hx hb hK hP hD hS 1 0 rfl rfl (by have := ti_lo n; have := ti_hi n; have := ti_lo v8; have := ti_hi v8; have := ti_lo x2; have := ti_hi x2; have := ti_lo q1; have := ti_hi q1; have := ti_lo q5; have := ti_hi q5; have := ti_lo q6; have := ti_hi q6; have t800 : Int32.toInt 800 = 800 := rfl; have t0 : Int32.toInt 0 = 0 := rfl; have tm1 : Int32.toInt (-1) = -1 := rfl; have t1 : Int32.toInt 1 = 1 := rfl; have t10 : Int32.toInt 10 = 10 := rfl; have t2 : Int32.toInt 2 = 2 := rfl; have t36 : Int32.toInt 36 = 36 := rfl; have t32 : Int32.toInt 32 = 32 := rfl; rw [vp_in_iff]; (try simp only [true_or, or_true, true_and, and_true, z_tn, CellsOk, CallsOk, TextOk, MemOk, OutOk, Int32.lt_iff_toInt_lt, Int32.le_iff_toInt_le, ← Int32.toInt_inj, Int32.toInt_add, Int32.toInt_sub, Int32.toInt_mul, Int32.toInt_neg, zbm, zbm', t800, t0, tm1, t1, t10, t2, t36, t32] at c2 c3 c7 c9 c10 hi hw hw2 k1 k5 k6 ⊢) <;> omega) d_Out_saidNumber_137 (fun H locs hP hD hS => ?_)
                    have hP : va_P D classes [(h, .inr (5, [.ref a, .int n])), (a, .inl (cI, 800, .inl (upd z1_f (n + v8).toNatClampNeg ((97 + ((v4 - v4 / x2.toInt64 * x2.toInt64).toInt32)) - 10))))] H := hP
                    have hD : va_D A [(h, .inr (5, [.ref a, .int n])), (a, .inl (cI, 800, .inl (upd z1_f (n + v8).toNatClampNeg ((97 + ((v4 - v4 / x2.toInt64 * x2.toInt64).toInt32)) - 10))))] := hD
                    refine lv_lload hx hb d_Out_saidNumber_138 (lv_at hl 4 rfl) ?_
                    refine lv_iload_n hx hb d_Out_saidNumber_140 rfl (lv_at hl 7 rfl) ?_
                    refine lv_i2l (v := x2.toInt64) hx hb d_Out_saidNumber_141 rfl ?_
                    refine lv_ldiv hx hb d_Out_saidNumber_142 (z_l0 (by have := ti_lo n; have := ti_hi n; have := ti_lo x2; have := ti_hi x2; have := ti_lo q1; have := ti_hi q1; have := ti_lo q5; have := ti_hi q5; have := ti_lo q6; have := ti_hi q6; have := ti_lo v8; have := ti_hi v8; have t2 : Int32.toInt 2 = 2 := rfl; have t0 : Int32.toInt 0 = 0 := rfl; have tm1 : Int32.toInt (-1) = -1 := rfl; have t1 : Int32.toInt 1 = 1 := rfl; have t10 : Int32.toInt 10 = 10 := rfl; have t36 : Int32.toInt 36 = 36 := rfl; have t32 : Int32.toInt 32 = 32 := rfl; have t800 : Int32.toInt 800 = 800 := rfl; (try simp only [true_or, or_true, true_and, and_true, z_tn, CellsOk, CallsOk, TextOk, MemOk, OutOk, Int32.lt_iff_toInt_lt, Int32.le_iff_toInt_le, ← Int32.toInt_inj, Int32.toInt_add, Int32.toInt_sub, Int32.toInt_mul, Int32.toInt_neg, zbm, zbm', t2, t0, tm1, t1, t10, t36, t32, t800] at c2 c3 c7 c9 c10 hi hw hw2 k1 k5 k6 ⊢) <;> omega)) ?_
                    refine lv_lstore (lv' := [(4, .long (v4 / x2.toInt64)), (9, .int ((v4 - v4 / x2.toInt64 * x2.toInt64).toInt32)), (8, .int v8), (7, .int q5), (6, .int 0), (0, .ref h), (1, .long x1), (3, .int x2)]) hx hb d_Out_saidNumber_143 hl (by decide) rfl (fun ls hl => ?_)
                    refine lv_iinc (v := v8 + (-1)) (lv' := [(8, .int (v8 + (-1))), (4, .long (v4 / x2.toInt64)), (9, .int ((v4 - v4 / x2.toInt64 * x2.toInt64).toInt32)), (7, .int q5), (6, .int 0), (0, .ref h), (1, .long x1), (3, .int x2)]) hx hb d_Out_saidNumber_145 hl (k := 2) rfl rfl (by decide) rfl (fun ls hl => ?_)
                    refine lv_goto (tgt := 88) hx hb d_Out_saidNumber_148 (by decide) ?_
                    exact ih (v8 + (-1)) (v4 / x2.toInt64) (upd z1_f (n + v8).toNatClampNeg ((97 + ((v4 - v4 / x2.toInt64 * x2.toInt64).toInt32)) - 10)) (by have := ti_lo v8; have := ti_hi v8; have := ti_lo n; have := ti_hi n; have := ti_lo x2; have := ti_hi x2; have := ti_lo q1; have := ti_hi q1; have := ti_lo q5; have := ti_hi q5; have := ti_lo q6; have := ti_hi q6; have tm1 : Int32.toInt (-1) = -1 := rfl; have t1 : Int32.toInt 1 = 1 := rfl; have t0 : Int32.toInt 0 = 0 := rfl; have t10 : Int32.toInt 10 = 10 := rfl; have t2 : Int32.toInt 2 = 2 := rfl; have t36 : Int32.toInt 36 = 36 := rfl; have t32 : Int32.toInt 32 = 32 := rfl; have t800 : Int32.toInt 800 = 800 := rfl; (try simp only [true_or, or_true, true_and, and_true, z_tn, CellsOk, CallsOk, TextOk, MemOk, OutOk, Int32.lt_iff_toInt_lt, Int32.le_iff_toInt_le, ← Int32.toInt_inj, Int32.toInt_add, Int32.toInt_sub, Int32.toInt_mul, Int32.toInt_neg, zbm, zbm', tm1, t1, t0, t10, t2, t36, t32, t800] at c2 c3 c7 c9 c10 hi hw hw2 k1 k5 k6 hk ⊢) <;> omega) (by have := ti_lo v8; have := ti_hi v8; have := ti_lo n; have := ti_hi n; have := ti_lo x2; have := ti_hi x2; have := ti_lo q1; have := ti_hi q1; have := ti_lo q5; have := ti_hi q5; have := ti_lo q6; have := ti_hi q6; have tm1 : Int32.toInt (-1) = -1 := rfl; have t1 : Int32.toInt 1 = 1 := rfl; have t0 : Int32.toInt 0 = 0 := rfl; have t10 : Int32.toInt 10 = 10 := rfl; have t2 : Int32.toInt 2 = 2 := rfl; have t36 : Int32.toInt 36 = 36 := rfl; have t32 : Int32.toInt 32 = 32 := rfl; have t800 : Int32.toInt 800 = 800 := rfl; (try simp only [true_or, or_true, true_and, and_true, z_tn, CellsOk, CallsOk, TextOk, MemOk, OutOk, Int32.lt_iff_toInt_lt, Int32.le_iff_toInt_le, ← Int32.toInt_inj, Int32.toInt_add, Int32.toInt_sub, Int32.toInt_mul, Int32.toInt_neg, zbm, zbm', tm1, t1, t0, t10, t2, t36, t32, t800] at c2 c3 c7 c9 c10 hi hw hw2 k1 k5 k6 ⊢) <;> omega) (by have := ti_lo v8; have := ti_hi v8; have := ti_lo n; have := ti_hi n; have := ti_lo x2; have := ti_hi x2; have := ti_lo q1; have := ti_hi q1; have := ti_lo q5; have := ti_hi q5; have := ti_lo q6; have := ti_hi q6; have tm1 : Int32.toInt (-1) = -1 := rfl; have t1 : Int32.toInt 1 = 1 := rfl; have t0 : Int32.toInt 0 = 0 := rfl; have t10 : Int32.toInt 10 = 10 := rfl; have t2 : Int32.toInt 2 = 2 := rfl; have t36 : Int32.toInt 36 = 36 := rfl; have t32 : Int32.toInt 32 = 32 := rfl; have t800 : Int32.toInt 800 = 800 := rfl; (try simp only [true_or, or_true, true_and, and_true, z_tn, CellsOk, CallsOk, TextOk, MemOk, OutOk, Int32.lt_iff_toInt_lt, Int32.le_iff_toInt_le, ← Int32.toInt_inj, Int32.toInt_add, Int32.toInt_sub, Int32.toInt_mul, Int32.toInt_neg, zbm, zbm', tm1, t1, t0, t10, t2, t36, t32, t800] at c2 c3 c7 c9 c10 hi hw hw2 k1 k5 k6 ⊢) <;> omega) _ _ _ hP hD hS (lv_sub hl [0, 3, 4, 1, 5, 6, 7] rfl) hF
                  · have hF := hF.trans (if_neg c10)
                    refine lv_bipush (v := 48) hx hb d_Out_saidNumber_121 (by decide) ?_
                    refine lv_iload hx hb d_Out_saidNumber_123 (lv_at hl 0 rfl) ?_
                    refine lv_iadd hx hb d_Out_saidNumber_125 ?_
                    refine lv_goto (tgt := 137) hx hb d_Out_saidNumber_126 (by decide) ?_
                    refine va_iast hx hb hK hP hD hS 1 0 rfl rfl (by have := ti_lo n; have := ti_hi n; have := ti_lo v8; have := ti_hi v8; have := ti_lo x2; have := ti_hi x2; have := ti_lo q1; have := ti_hi q1; have := ti_lo q5; have := ti_hi q5; have := ti_lo q6; have := ti_hi q6; have t800 : Int32.toInt 800 = 800 := rfl; have t0 : Int32.toInt 0 = 0 := rfl; have tm1 : Int32.toInt (-1) = -1 := rfl; have t1 : Int32.toInt 1 = 1 := rfl; have t10 : Int32.toInt 10 = 10 := rfl; have t2 : Int32.toInt 2 = 2 := rfl; have t36 : Int32.toInt 36 = 36 := rfl; have t32 : Int32.toInt 32 = 32 := rfl; rw [vp_in_iff]; (try simp only [true_or, or_true, true_and, and_true, z_tn, CellsOk, CallsOk, TextOk, MemOk, OutOk, Int32.lt_iff_toInt_lt, Int32.le_iff_toInt_le, ← Int32.toInt_inj, Int32.toInt_add, Int32.toInt_sub, Int32.toInt_mul, Int32.toInt_neg, zbm, zbm', t800, t0, tm1, t1, t10, t2, t36, t32] at c2 c3 c7 c9 c10 hi hw hw2 k1 k5 k6 ⊢) <;> omega) d_Out_saidNumber_137 (fun H locs hP hD hS => ?_)
                    have hP : va_P D classes [(h, .inr (5, [.ref a, .int n])), (a, .inl (cI, 800, .inl (upd z1_f (n + v8).toNatClampNeg (48 + ((v4 - v4 / x2.toInt64 * x2.toInt64).toInt32)))))] H := hP
                    have hD : va_D A [(h, .inr (5, [.ref a, .int n])), (a, .inl (cI, 800, .inl (upd z1_f (n + v8).toNatClampNeg (48 + ((v4 - v4 / x2.toInt64 * x2.toInt64).toInt32)))))] := hD
                    refine lv_lload hx hb d_Out_saidNumber_138 (lv_at hl 4 rfl) ?_
                    refine lv_iload_n hx hb d_Out_saidNumber_140 rfl (lv_at hl 7 rfl) ?_
                    refine lv_i2l (v := x2.toInt64) hx hb d_Out_saidNumber_141 rfl ?_
                    refine lv_ldiv hx hb d_Out_saidNumber_142 (z_l0 (by have := ti_lo n; have := ti_hi n; have := ti_lo x2; have := ti_hi x2; have := ti_lo q1; have := ti_hi q1; have := ti_lo q5; have := ti_hi q5; have := ti_lo q6; have := ti_hi q6; have := ti_lo v8; have := ti_hi v8; have t2 : Int32.toInt 2 = 2 := rfl; have t0 : Int32.toInt 0 = 0 := rfl; have tm1 : Int32.toInt (-1) = -1 := rfl; have t1 : Int32.toInt 1 = 1 := rfl; have t10 : Int32.toInt 10 = 10 := rfl; have t36 : Int32.toInt 36 = 36 := rfl; have t32 : Int32.toInt 32 = 32 := rfl; have t800 : Int32.toInt 800 = 800 := rfl; (try simp only [true_or, or_true, true_and, and_true, z_tn, CellsOk, CallsOk, TextOk, MemOk, OutOk, Int32.lt_iff_toInt_lt, Int32.le_iff_toInt_le, ← Int32.toInt_inj, Int32.toInt_add, Int32.toInt_sub, Int32.toInt_mul, Int32.toInt_neg, zbm, zbm', t2, t0, tm1, t1, t10, t36, t32, t800] at c2 c3 c7 c9 c10 hi hw hw2 k1 k5 k6 ⊢) <;> omega)) ?_
                    refine lv_lstore (lv' := [(4, .long (v4 / x2.toInt64)), (9, .int ((v4 - v4 / x2.toInt64 * x2.toInt64).toInt32)), (8, .int v8), (7, .int q5), (6, .int 0), (0, .ref h), (1, .long x1), (3, .int x2)]) hx hb d_Out_saidNumber_143 hl (by decide) rfl (fun ls hl => ?_)
                    refine lv_iinc (v := v8 + (-1)) (lv' := [(8, .int (v8 + (-1))), (4, .long (v4 / x2.toInt64)), (9, .int ((v4 - v4 / x2.toInt64 * x2.toInt64).toInt32)), (7, .int q5), (6, .int 0), (0, .ref h), (1, .long x1), (3, .int x2)]) hx hb d_Out_saidNumber_145 hl (k := 2) rfl rfl (by decide) rfl (fun ls hl => ?_)
                    refine lv_goto (tgt := 88) hx hb d_Out_saidNumber_148 (by decide) ?_
                    exact ih (v8 + (-1)) (v4 / x2.toInt64) (upd z1_f (n + v8).toNatClampNeg (48 + ((v4 - v4 / x2.toInt64 * x2.toInt64).toInt32))) (by have := ti_lo v8; have := ti_hi v8; have := ti_lo n; have := ti_hi n; have := ti_lo x2; have := ti_hi x2; have := ti_lo q1; have := ti_hi q1; have := ti_lo q5; have := ti_hi q5; have := ti_lo q6; have := ti_hi q6; have tm1 : Int32.toInt (-1) = -1 := rfl; have t1 : Int32.toInt 1 = 1 := rfl; have t0 : Int32.toInt 0 = 0 := rfl; have t10 : Int32.toInt 10 = 10 := rfl; have t2 : Int32.toInt 2 = 2 := rfl; have t36 : Int32.toInt 36 = 36 := rfl; have t32 : Int32.toInt 32 = 32 := rfl; have t800 : Int32.toInt 800 = 800 := rfl; (try simp only [true_or, or_true, true_and, and_true, z_tn, CellsOk, CallsOk, TextOk, MemOk, OutOk, Int32.lt_iff_toInt_lt, Int32.le_iff_toInt_le, ← Int32.toInt_inj, Int32.toInt_add, Int32.toInt_sub, Int32.toInt_mul, Int32.toInt_neg, zbm, zbm', tm1, t1, t0, t10, t2, t36, t32, t800] at c2 c3 c7 c9 c10 hi hw hw2 k1 k5 k6 hk ⊢) <;> omega) (by have := ti_lo v8; have := ti_hi v8; have := ti_lo n; have := ti_hi n; have := ti_lo x2; have := ti_hi x2; have := ti_lo q1; have := ti_hi q1; have := ti_lo q5; have := ti_hi q5; have := ti_lo q6; have := ti_hi q6; have tm1 : Int32.toInt (-1) = -1 := rfl; have t1 : Int32.toInt 1 = 1 := rfl; have t0 : Int32.toInt 0 = 0 := rfl; have t10 : Int32.toInt 10 = 10 := rfl; have t2 : Int32.toInt 2 = 2 := rfl; have t36 : Int32.toInt 36 = 36 := rfl; have t32 : Int32.toInt 32 = 32 := rfl; have t800 : Int32.toInt 800 = 800 := rfl; (try simp only [true_or, or_true, true_and, and_true, z_tn, CellsOk, CallsOk, TextOk, MemOk, OutOk, Int32.lt_iff_toInt_lt, Int32.le_iff_toInt_le, ← Int32.toInt_inj, Int32.toInt_add, Int32.toInt_sub, Int32.toInt_mul, Int32.toInt_neg, zbm, zbm', tm1, t1, t0, t10, t2, t36, t32, t800] at c2 c3 c7 c9 c10 hi hw hw2 k1 k5 k6 ⊢) <;> omega) (by have := ti_lo v8; have := ti_hi v8; have := ti_lo n; have := ti_hi n; have := ti_lo x2; have := ti_hi x2; have := ti_lo q1; have := ti_hi q1; have := ti_lo q5; have := ti_hi q5; have := ti_lo q6; have := ti_hi q6; have tm1 : Int32.toInt (-1) = -1 := rfl; have t1 : Int32.toInt 1 = 1 := rfl; have t0 : Int32.toInt 0 = 0 := rfl; have t10 : Int32.toInt 10 = 10 := rfl; have t2 : Int32.toInt 2 = 2 := rfl; have t36 : Int32.toInt 36 = 36 := rfl; have t32 : Int32.toInt 32 = 32 := rfl; have t800 : Int32.toInt 800 = 800 := rfl; (try simp only [true_or, or_true, true_and, and_true, z_tn, CellsOk, CallsOk, TextOk, MemOk, OutOk, Int32.lt_iff_toInt_lt, Int32.le_iff_toInt_le, ← Int32.toInt_inj, Int32.toInt_add, Int32.toInt_sub, Int32.toInt_mul, Int32.toInt_neg, zbm, zbm', tm1, t1, t0, t10, t2, t36, t32, t800] at c2 c3 c7 c9 c10 hi hw hw2 k1 k5 k6 ⊢) <;> omega) _ _ _ hP hD hS (lv_sub hl [0, 3, 4, 1, 5, 6, 7] rfl) hF
            exact loop (((((0 + q5) - 1).toInt + 1).toNat) + 1) ((0 + q5) - 1) x1 f (Nat.lt_succ_self _) (by have := ti_lo q5; have := ti_hi q5; have := ti_lo n; have := ti_hi n; have := ti_lo x2; have := ti_hi x2; have := ti_lo q1; have := ti_hi q1; have := ti_lo q6; have := ti_hi q6; have tm1 : Int32.toInt (-1) = -1 := rfl; have t1 : Int32.toInt 1 = 1 := rfl; have t0 : Int32.toInt 0 = 0 := rfl; have t2 : Int32.toInt 2 = 2 := rfl; have t36 : Int32.toInt 36 = 36 := rfl; have t32 : Int32.toInt 32 = 32 := rfl; have t800 : Int32.toInt 800 = 800 := rfl; (try simp only [true_or, or_true, true_and, and_true, z_tn, CellsOk, CallsOk, TextOk, MemOk, OutOk, Int32.lt_iff_toInt_lt, Int32.le_iff_toInt_le, ← Int32.toInt_inj, Int32.toInt_add, Int32.toInt_sub, Int32.toInt_mul, Int32.toInt_neg, zbm, zbm', tm1, t1, t0, t2, t36, t32, t800] at c2 c3 c7 hi k1 k5 k6 ⊢) <;> omega) (by have := ti_lo q5; have := ti_hi q5; have := ti_lo n; have := ti_hi n; have := ti_lo x2; have := ti_hi x2; have := ti_lo q1; have := ti_hi q1; have := ti_lo q6; have := ti_hi q6; have t0 : Int32.toInt 0 = 0 := rfl; have t1 : Int32.toInt 1 = 1 := rfl; have t2 : Int32.toInt 2 = 2 := rfl; have t36 : Int32.toInt 36 = 36 := rfl; have t32 : Int32.toInt 32 = 32 := rfl; have t800 : Int32.toInt 800 = 800 := rfl; (try simp only [true_or, or_true, true_and, and_true, z_tn, CellsOk, CallsOk, TextOk, MemOk, OutOk, Int32.lt_iff_toInt_lt, Int32.le_iff_toInt_le, ← Int32.toInt_inj, Int32.toInt_add, Int32.toInt_sub, Int32.toInt_mul, Int32.toInt_neg, zbm, zbm', t0, t1, t2, t36, t32, t800] at c2 c3 c7 hi k1 k5 k6 ⊢) <;> omega) _ _ _ hP hD hS (lv_sub hl [0, 1, 2, 3, 4, 5, 6] rfl) hF
          · exact absurd c8 (by decide)
        · have hF := hF.trans (if_pos c7)
          refine lv_bipush (v := (-17)) hx hb d_Out_saidNumber_59 (by decide) ?_
          exact W.iret (v := (-17)) hx hb hr (fun t ht hW => ⟨⟨_, _, rfl, ⟨hF.symm, hi⟩, ⟨by rw [ht]; exact hP, va_K.moved hW.alike hK, hD⟩⟩, hS.F ht⟩) hS.2.2 d_Out_saidNumber_61
      · exact absurd c3 c4
    · have hF := hF.trans (if_neg c3)
      refine lv_lload_n hx hb d_Out_saidNumber_16 rfl (lv_at hl 1 rfl) ?_
      refine lv_lneg hx hb d_Out_saidNumber_17 ?_
      refine lv_goto (tgt := 22) hx hb d_Out_saidNumber_18 (by decide) ?_
      refine lv_lstore (lv' := [(4, .long (-x1)), (0, .ref h), (1, .long x1), (3, .int x2)]) hx hb d_Out_saidNumber_22 hl (by decide) rfl (fun ls hl => ?_)
      refine lv_lload_n hx hb d_Out_saidNumber_24 rfl (lv_at hl 2 rfl) ?_
      refine lv_lconst (v := 0) hx hb d_Out_saidNumber_25 (by decide) ?_
      refine W.lcmp hx hb d_Out_saidNumber_26 ?_
      refine lv_if_ge (tgt := 34) hx hb d_Out_saidNumber_27 (by decide) (fun c11 => ?_) (fun c11 => ?_)
      · exact absurd c11 c3
      · refine lv_iconst (v := 1) hx hb d_Out_saidNumber_30 (by decide) ?_
        refine lv_goto (tgt := 35) hx hb d_Out_saidNumber_31 (by decide) ?_
        refine lv_istore (lv' := [(6, .int 1), (4, .long (-x1)), (0, .ref h), (1, .long x1), (3, .int x2)]) hx hb d_Out_saidNumber_35 hl (by decide) rfl (fun ls hl => ?_)
        refine lv_lload hx hb d_Out_saidNumber_37 (lv_at hl 1 rfl) ?_
        refine lv_iload_n hx hb d_Out_saidNumber_39 rfl (lv_at hl 4 rfl) ?_
        refine kN_pi (wr := [(h, .inr (5, [.ref a, .int n])), (a, .inl (cI, 800, .inl f))]) (zS (wc := []) (As := [.long (-x1), .int x2]) (rest := []) (st0 := [.int x2, .long (-x1)]) ⟨hx, hb, hml, hown, hT⟩ (c_Out_digitsOf l D cI cJ cZ cW cT H.size (-x1) x2) (va_cwS 2 hT (tbS ml_Out_34 sm_Out_digitsOf in_Out co_Out_digitsOf) rfl rfl rfl vs_Out_digitsOf ⟨Nat.le_of_ble_eq_true rfl, Nat.le_of_ble_eq_true rfl⟩) hK hE hP hD hS hA [] rfl rfl rfl hl.1 rfl (Nat.le_of_ble_eq_true rfl) d_Out_saidNumber_40 ⟨Nat.le_of_ble_eq_true rfl, Nat.le_of_ble_eq_true rfl⟩) hP hD hS hA [] [0, 1] rfl rfl rfl (by decide) [0, 1] rfl rfl (fun q12 H locs e12 k12 hP hD hS => ?_)
        have hP : va_P D classes [(h, .inr (5, [.ref a, .int n])), (a, .inl (cI, 800, .inl f))] H := hP
        have hD : va_D A [(h, .inr (5, [.ref a, .int n])), (a, .inl (cI, 800, .inl f))] := hD
        have hF := hF.trans (bd_e e12)
        refine lv_istore (lv' := [(7, .int q12), (6, .int 1), (4, .long (-x1)), (0, .ref h), (1, .long x1), (3, .int x2)]) hx hb d_Out_saidNumber_43 hl (by decide) rfl (fun ls hl => ?_)
        refine lv_aload_n hx hb d_Out_saidNumber_45 rfl (lv_at hl 3 rfl) ?_
        refine lv_iload hx hb d_Out_saidNumber_46 (lv_at hl 1 rfl) ?_
        refine lv_iload hx hb d_Out_saidNumber_48 (lv_at hl 0 rfl) ?_
        refine lv_iadd hx hb d_Out_saidNumber_50 ?_
        refine lv_iconst (v := 1) hx hb d_Out_saidNumber_51 (by decide) ?_
        refine lv_iadd hx hb d_Out_saidNumber_52 ?_
        refine kN_pi (wr := [(a, .inl (cI, 800, .inl f))]) (zV (wc := [(h, .inr (5, [.ref a, .int n]))]) (As := [.int ((1 + q12) + 1)]) (rest := []) (st0 := [.int ((1 + q12) + 1), .ref h]) ⟨hx, hb, hml, hown, hT⟩ (c_Out_hasRoomFor l D cI cJ cZ cW cT H.size h a n ((1 + q12) + 1) hi) (cwV 1 hT (tbV ml_Out_19 im_Out_hasRoomFor se_Out_hasRoomFor in_Out co_Out_hasRoomFor) rfl rfl rfl v_Out_hasRoomFor ⟨Nat.le_of_ble_eq_true rfl, Nat.le_of_ble_eq_true rfl⟩) hK hE hP hD hS hA [0] rfl rfl 0 rfl rfl rfl hl.1 rfl (Nat.le_of_ble_eq_true rfl) d_Out_saidNumber_53 ⟨Nat.le_of_ble_eq_true rfl, Nat.le_of_ble_eq_true rfl⟩) hP hD hS hA [0] [1] rfl rfl rfl (by decide) [1, 0] rfl rfl (fun q13 H locs e13 k13 hP hD hS => ?_)
        have hP : va_P D classes [(h, .inr (5, [.ref a, .int n])), (a, .inl (cI, 800, .inl f))] H := hP
        have hD : va_D A [(h, .inr (5, [.ref a, .int n])), (a, .inl (cI, 800, .inl f))] := hD
        have hF := hF.trans (bd_e e13)
        refine lv_if_ne (tgt := 62) hx hb d_Out_saidNumber_56 (by decide) (fun c14 => ?_) (fun c14 => ?_)
        · have hF := hF.trans (if_neg c14)
          refine lv_iload hx hb d_Out_saidNumber_62 (lv_at hl 1 rfl) ?_
          refine lv_iconst (v := 1) hx hb d_Out_saidNumber_64 (by decide) ?_
          refine lv_icmp_ne (tgt := 79) hx hb d_Out_saidNumber_65 (by decide) (fun c15 => ?_) (fun c15 => ?_)
          · exact absurd c15 (by decide)
          · refine lv_aload_n hx hb d_Out_saidNumber_68 rfl (lv_at hl 3 rfl) ?_
            refine va_get (D := D) (v := .ref a) (C := "ColonMachine$Out") (T := T_Out) (N := 2) hx hb hT i_Out hown hK hP 0 rfl rfl 0 (by decide) (hT _ fl_Out_11) (fun _ h9 => h9) rfl d_Out_saidNumber_69 ?_
            refine lv_aload_n hx hb d_Out_saidNumber_72 rfl (lv_at hl 3 rfl) ?_
            refine va_get (D := D) (v := .int n) (C := "ColonMachine$Out") (T := T_Out) (N := 2) hx hb hT i_Out hown hK hP 0 rfl rfl 1 (by decide) (hT _ fl_Out_15) (fun _ h9 => h9) rfl d_Out_saidNumber_73 ?_
            refine lv_bipush (v := 45) hx hb d_Out_saidNumber_76 (by decide) ?_
            refine va_iast hx hb hK hP hD hS 1 0 rfl rfl (by have := ti_lo n; have := ti_hi n; have := ti_lo x2; have := ti_hi x2; have := ti_lo q1; have := ti_hi q1; have := ti_lo q12; have := ti_hi q12; have := ti_lo q13; have := ti_hi q13; have t800 : Int32.toInt 800 = 800 := rfl; have t0 : Int32.toInt 0 = 0 := rfl; have t2 : Int32.toInt 2 = 2 := rfl; have t36 : Int32.toInt 36 = 36 := rfl; have t1 : Int32.toInt 1 = 1 := rfl; have t32 : Int32.toInt 32 = 32 := rfl; rw [vp_in_iff]; (try simp only [true_or, or_true, true_and, and_true, z_tn, CellsOk, CallsOk, TextOk, MemOk, OutOk, Int32.lt_iff_toInt_lt, Int32.le_iff_toInt_le, ← Int32.toInt_inj, Int32.toInt_add, Int32.toInt_sub, Int32.toInt_mul, Int32.toInt_neg, zbm, zbm', t800, t0, t2, t36, t1, t32] at c2 c3 c14 hi k1 k12 k13 ⊢) <;> omega) d_Out_saidNumber_78 (fun H locs hP hD hS => ?_)
            have hP : va_P D classes [(h, .inr (5, [.ref a, .int n])), (a, .inl (cI, 800, .inl (upd f n.toNatClampNeg 45)))] H := hP
            have hD : va_D A [(h, .inr (5, [.ref a, .int n])), (a, .inl (cI, 800, .inl (upd f n.toNatClampNeg 45)))] := hD
            refine lv_iload hx hb d_Out_saidNumber_79 (lv_at hl 1 rfl) ?_
            refine lv_iload hx hb d_Out_saidNumber_81 (lv_at hl 0 rfl) ?_
            refine lv_iadd hx hb d_Out_saidNumber_83 ?_
            refine lv_iconst (v := 1) hx hb d_Out_saidNumber_84 (by decide) ?_
            refine lv_isub hx hb d_Out_saidNumber_85 ?_
            refine lv_istore (lv' := [(8, .int ((1 + q12) - 1)), (7, .int q12), (6, .int 1), (4, .long (-x1)), (0, .ref h), (1, .long x1), (3, .int x2)]) hx hb d_Out_saidNumber_86 hl (by decide) rfl (fun ls hl => ?_)
            have loop : ∀ (k88 : Nat) (v8 : Int32) (v4 : Int64) (z1_f : Nat → Int32) (hk : (v8.toInt + 1).toNat < k88) (hw : -1 ≤ v8.toInt) (hw2 : v8.toInt < q12.toInt + 1) (H : Heap) (locs : List Loc) (ls : Array Slot) (hP : va_P D classes [(h, .inr (5, [.ref a, .int n])), (a, .inl (cI, 800, .inl z1_f))] H) (hD : va_D A [(h, .inr (5, [.ref a, .int n])), (a, .inl (cI, 800, .inl z1_f))]) (hS : va_S A s.heap H locs) (hl : lv_has ls 10 [(8, .int v8), (7, .int q12), (6, .int 1), (4, .long v4), (0, .ref h), (1, .long x1), (3, .int x2)]) (hF : F_Out_saidNumber n f x1 x2 = F_Out_saidNumber_L88b n x2 q12 k88 v8 v4 z1_f), W p l e (headSpec w_Out_saidNumber ({ frames := 1, cells := 0, slots := 0, locals := 25 })).room s m (List.toArray [.ref h, .long x1, .int x2]) below meth c H locs 0 0 (MQ below (va_Qi (fun (r : Int32) (u : Int32 × (Nat → Int32)) => (r, u) = F_Out_saidNumber n f x1 x2 ∧ ((OutOk u.1))) (fun u => zB D classes (TY cI cJ cZ cW cT) A [(h, .inr (5, [.ref a, .int u.1])), (a, .inl (cI, 800, .inl u.2))]) A) (List.toArray [.ref h, .long x1, .int x2]) s 0 0 A) (F0 m 88 ls []) := by
              intro k88
              induction k88 with
              | zero => intro v8 v4 z1_f hk; exact absurd hk (Nat.not_lt_zero _)
              | succ k88 ih =>
                intro v8 v4 z1_f hk hw hw2 H locs ls hP hD hS hl hF
                have hF := hF.trans (F_Out_saidNumber_L88b_s n x2 q12 k88 v8 v4 z1_f)
                refine lv_iload hx hb d_Out_saidNumber_88 (lv_at hl 0 rfl) ?_
                refine lv_iload hx hb d_Out_saidNumber_90 (lv_at hl 2 rfl) ?_
                refine lv_icmp_lt (tgt := 151) hx hb d_Out_saidNumber_92 (by decide) (fun c16 => ?_) (fun c16 => ?_)
                · have hF := hF.trans (if_pos c16)
                  refine lv_aload_n hx hb d_Out_saidNumber_151 rfl (lv_at hl 4 rfl) ?_
                  refine va_get (D := D) (v := .ref a) (C := "ColonMachine$Out") (T := T_Out) (N := 2) hx hb hT i_Out hown hK hP 0 rfl rfl 0 (by decide) (hT _ fl_Out_11) (fun _ h9 => h9) rfl d_Out_saidNumber_152 ?_
                  refine lv_aload_n hx hb d_Out_saidNumber_155 rfl (lv_at hl 4 rfl) ?_
                  refine va_get (D := D) (v := .int n) (C := "ColonMachine$Out") (T := T_Out) (N := 2) hx hb hT i_Out hown hK hP 0 rfl rfl 1 (by decide) (hT _ fl_Out_15) (fun _ h9 => h9) rfl d_Out_saidNumber_156 ?_
                  refine lv_iload hx hb d_Out_saidNumber_159 (lv_at hl 2 rfl) ?_
                  refine lv_iadd hx hb d_Out_saidNumber_161 ?_
                  refine lv_iload hx hb d_Out_saidNumber_162 (lv_at hl 1 rfl) ?_
                  refine lv_iadd hx hb d_Out_saidNumber_164 ?_
                  refine lv_bipush (v := 32) hx hb d_Out_saidNumber_165 (by decide) ?_
                  refine va_iast hx hb hK hP hD hS 1 0 rfl rfl (by have := ti_lo n; have := ti_hi n; have := ti_lo q12; have := ti_hi q12; have := ti_lo x2; have := ti_hi x2; have := ti_lo q1; have := ti_hi q1; have := ti_lo q13; have := ti_hi q13; have := ti_lo v8; have := ti_hi v8; have t1 : Int32.toInt 1 = 1 := rfl; have t800 : Int32.toInt 800 = 800 := rfl; have t0 : Int32.toInt 0 = 0 := rfl; have tm1 : Int32.toInt (-1) = -1 := rfl; have t2 : Int32.toInt 2 = 2 := rfl; have t36 : Int32.toInt 36 = 36 := rfl; have t32 : Int32.toInt 32 = 32 := rfl; rw [vp_in_iff]; (try simp only [true_or, or_true, true_and, and_true, z_tn, CellsOk, CallsOk, TextOk, MemOk, OutOk, Int32.lt_iff_toInt_lt, Int32.le_iff_toInt_le, ← Int32.toInt_inj, Int32.toInt_add, Int32.toInt_sub, Int32.toInt_mul, Int32.toInt_neg, zbm, zbm', t1, t800, t0, tm1, t2, t36, t32] at c2 c3 c14 c16 hi hw hw2 k1 k12 k13 ⊢) <;> omega) d_Out_saidNumber_167 (fun H locs hP hD hS => ?_)
                  have hP : va_P D classes [(h, .inr (5, [.ref a, .int n])), (a, .inl (cI, 800, .inl (upd z1_f ((n + 1) + q12).toNatClampNeg 32)))] H := hP
                  have hD : va_D A [(h, .inr (5, [.ref a, .int n])), (a, .inl (cI, 800, .inl (upd z1_f ((n + 1) + q12).toNatClampNeg 32)))] := hD
                  refine lv_aload_n hx hb d_Out_saidNumber_168 rfl (lv_at hl 4 rfl) ?_
                  refine lv_dup hx hb d_Out_saidNumber_169 rfl ?_
                  refine va_get (D := D) (v := .int n) (C := "ColonMachine$Out") (T := T_Out) (N := 2) hx hb hT i_Out hown hK hP 0 rfl rfl 1 (by decide) (hT _ fl_Out_15) (fun _ h9 => h9) rfl d_Out_saidNumber_170 ?_
                  refine lv_iload hx hb d_Out_saidNumber_173 (lv_at hl 2 rfl) ?_
                  refine lv_iload hx hb d_Out_saidNumber_175 (lv_at hl 1 rfl) ?_
                  refine lv_iadd hx hb d_Out_saidNumber_177 ?_
                  refine lv_iconst (v := 1) hx hb d_Out_saidNumber_178 (by decide) ?_
                  refine lv_iadd hx hb d_Out_saidNumber_179 ?_
                  refine lv_iadd hx hb d_Out_saidNumber_180 ?_
                  refine va_put (D := D) (v := .int (n + ((1 + q12) + 1))) (ty := .int) (C := "ColonMachine$Out") (T := T_Out) (N := 2) hx hb hT i_Out t_Out tk_Out n_Out hown hK hP hD hS 0 rfl rfl 1 (by decide) (hT _ fl_Out_15) (fun _ h9 => h9) rfl (by decide +kernel) rfl rfl (Nat.le_of_ble_eq_true rfl) d_Out_saidNumber_181 (fun H locs hP hD hS => ?_)
                  have hP : va_P D classes [(h, .inr (5, [.ref a, .int (n + ((1 + q12) + 1))])), (a, .inl (cI, 800, .inl (upd z1_f ((n + 1) + q12).toNatClampNeg 32)))] H := hP
                  have hD : va_D A [(h, .inr (5, [.ref a, .int (n + ((1 + q12) + 1))])), (a, .inl (cI, 800, .inl (upd z1_f ((n + 1) + q12).toNatClampNeg 32)))] := hD
                  refine lv_iconst (v := 0) hx hb d_Out_saidNumber_184 (by decide) ?_
                  exact W.iret (v := 0) hx hb hr (fun t ht hW => ⟨⟨_, _, rfl, ⟨hF.symm, (by have := ti_lo n; have := ti_hi n; have := ti_lo q12; have := ti_hi q12; have := ti_lo x2; have := ti_hi x2; have := ti_lo q1; have := ti_hi q1; have := ti_lo q13; have := ti_hi q13; have := ti_lo v8; have := ti_hi v8; have t1 : Int32.toInt 1 = 1 := rfl; have t0 : Int32.toInt 0 = 0 := rfl; have tm1 : Int32.toInt (-1) = -1 := rfl; have t2 : Int32.toInt 2 = 2 := rfl; have t36 : Int32.toInt 36 = 36 := rfl; have t32 : Int32.toInt 32 = 32 := rfl; have t800 : Int32.toInt 800 = 800 := rfl; (try simp only [true_or, or_true, true_and, and_true, z_tn, CellsOk, CallsOk, TextOk, MemOk, OutOk, Int32.lt_iff_toInt_lt, Int32.le_iff_toInt_le, ← Int32.toInt_inj, Int32.toInt_add, Int32.toInt_sub, Int32.toInt_mul, Int32.toInt_neg, zbm, zbm', t1, t0, tm1, t2, t36, t32, t800] at c2 c3 c14 c16 hi hw hw2 k1 k12 k13 ⊢) <;> omega)⟩, ⟨by rw [ht]; exact hP, va_K.moved hW.alike hK, hD⟩⟩, hS.F ht⟩) hS.2.2 d_Out_saidNumber_185
                · have hF := hF.trans (if_neg c16)
                  refine lv_lload hx hb d_Out_saidNumber_95 (lv_at hl 3 rfl) ?_
                  refine lv_iload_n hx hb d_Out_saidNumber_97 rfl (lv_at hl 6 rfl) ?_
                  refine lv_i2l (v := x2.toInt64) hx hb d_Out_saidNumber_98 rfl ?_
                  refine lv_lrem hx hb d_Out_saidNumber_99 (z_l0 (by have := ti_lo n; have := ti_hi n; have := ti_lo x2; have := ti_hi x2; have := ti_lo q1; have := ti_hi q1; have := ti_lo q12; have := ti_hi q12; have := ti_lo q13; have := ti_hi q13; have := ti_lo v8; have := ti_hi v8; have t2 : Int32.toInt 2 = 2 := rfl; have t0 : Int32.toInt 0 = 0 := rfl; have tm1 : Int32.toInt (-1) = -1 := rfl; have t1 : Int32.toInt 1 = 1 := rfl; have t36 : Int32.toInt 36 = 36 := rfl; have t32 : Int32.toInt 32 = 32 := rfl; have t800 : Int32.toInt 800 = 800 := rfl; (try simp only [true_or, or_true, true_and, and_true, z_tn, CellsOk, CallsOk, TextOk, MemOk, OutOk, Int32.lt_iff_toInt_lt, Int32.le_iff_toInt_le, ← Int32.toInt_inj, Int32.toInt_add, Int32.toInt_sub, Int32.toInt_mul, Int32.toInt_neg, zbm, zbm', t2, t0, tm1, t1, t36, t32, t800] at c2 c3 c14 c16 hi hw hw2 k1 k12 k13 ⊢) <;> omega)) ?_
                  refine lv_l2i (v := (v4 - v4 / x2.toInt64 * x2.toInt64).toInt32) hx hb d_Out_saidNumber_100 rfl ?_
                  refine lv_istore (lv' := [(9, .int ((v4 - v4 / x2.toInt64 * x2.toInt64).toInt32)), (8, .int v8), (7, .int q12), (6, .int 1), (4, .long v4), (0, .ref h), (1, .long x1), (3, .int x2)]) hx hb d_Out_saidNumber_101 hl (by decide) rfl (fun ls hl => ?_)
                  refine lv_aload_n hx hb d_Out_saidNumber_103 rfl (lv_at hl 5 rfl) ?_
                  refine va_get (D := D) (v := .ref a) (C := "ColonMachine$Out") (T := T_Out) (N := 2) hx hb hT i_Out hown hK hP 0 rfl rfl 0 (by decide) (hT _ fl_Out_11) (fun _ h9 => h9) rfl d_Out_saidNumber_104 ?_
                  refine lv_aload_n hx hb d_Out_saidNumber_107 rfl (lv_at hl 5 rfl) ?_
                  refine va_get (D := D) (v := .int n) (C := "ColonMachine$Out") (T := T_Out) (N := 2) hx hb hT i_Out hown hK hP 0 rfl rfl 1 (by decide) (hT _ fl_Out_15) (fun _ h9 => h9) rfl d_Out_saidNumber_108 ?_
                  refine lv_iload hx hb d_Out_saidNumber_111 (lv_at hl 1 rfl) ?_
                  refine lv_iadd hx hb d_Out_saidNumber_113 ?_
                  refine lv_iload hx hb d_Out_saidNumber_114 (lv_at hl 0 rfl) ?_
                  refine lv_bipush (v := 10) hx hb d_Out_saidNumber_116 (by decide) ?_
                  refine lv_icmp_ge (tgt := 129) hx hb d_Out_saidNumber_118 (by decide) (fun c17 => ?_) (fun c17 => ?_)
                  · have hF := hF.trans (if_pos c17)
                    refine lv_bipush (v := 97) hx hb d_Out_saidNumber_129 (by decide) ?_
                    refine lv_iload hx hb d_Out_saidNumber_131 (lv_at hl 0 rfl) ?_
                    refine lv_iadd hx hb d_Out_saidNumber_133 ?_
                    refine lv_bipush (v := 10) hx hb d_Out_saidNumber_134 (by decide) ?_
                    refine lv_isub hx hb d_Out_saidNumber_136 ?_
                    refine va_iast hx hb hK hP hD hS 1 0 rfl rfl (by have := ti_lo n; have := ti_hi n; have := ti_lo v8; have := ti_hi v8; have := ti_lo x2; have := ti_hi x2; have := ti_lo q1; have := ti_hi q1; have := ti_lo q12; have := ti_hi q12; have := ti_lo q13; have := ti_hi q13; have t800 : Int32.toInt 800 = 800 := rfl; have t0 : Int32.toInt 0 = 0 := rfl; have tm1 : Int32.toInt (-1) = -1 := rfl; have t1 : Int32.toInt 1 = 1 := rfl; have t10 : Int32.toInt 10 = 10 := rfl; have t2 : Int32.toInt 2 = 2 := rfl; have t36 : Int32.toInt 36 = 36 := rfl; have t32 : Int32.toInt 32 = 32 := rfl; rw [vp_in_iff]; (try simp only [true_or, or_true, true_and, and_true, z_tn, CellsOk, CallsOk, TextOk, MemOk, OutOk, Int32.lt_iff_toInt_lt, Int32.le_iff_toInt_le, ← Int32.toInt_inj, Int32.toInt_add, Int32.toInt_sub, Int32.toInt_mul, Int32.toInt_neg, zbm, zbm', t800, t0, tm1, t1, t10, t2, t36, t32] at c2 c3 c14 c16 c17 hi hw hw2 k1 k12 k13 ⊢) <;> omega) d_Out_saidNumber_137 (fun H locs hP hD hS => ?_)
                    have hP : va_P D classes [(h, .inr (5, [.ref a, .int n])), (a, .inl (cI, 800, .inl (upd z1_f (n + v8).toNatClampNeg ((97 + ((v4 - v4 / x2.toInt64 * x2.toInt64).toInt32)) - 10))))] H := hP
                    have hD : va_D A [(h, .inr (5, [.ref a, .int n])), (a, .inl (cI, 800, .inl (upd z1_f (n + v8).toNatClampNeg ((97 + ((v4 - v4 / x2.toInt64 * x2.toInt64).toInt32)) - 10))))] := hD
                    refine lv_lload hx hb d_Out_saidNumber_138 (lv_at hl 4 rfl) ?_
                    refine lv_iload_n hx hb d_Out_saidNumber_140 rfl (lv_at hl 7 rfl) ?_
                    refine lv_i2l (v := x2.toInt64) hx hb d_Out_saidNumber_141 rfl ?_
                    refine lv_ldiv hx hb d_Out_saidNumber_142 (z_l0 (by have := ti_lo n; have := ti_hi n; have := ti_lo x2; have := ti_hi x2; have := ti_lo q1; have := ti_hi q1; have := ti_lo q12; have := ti_hi q12; have := ti_lo q13; have := ti_hi q13; have := ti_lo v8; have := ti_hi v8; have t2 : Int32.toInt 2 = 2 := rfl; have t0 : Int32.toInt 0 = 0 := rfl; have tm1 : Int32.toInt (-1) = -1 := rfl; have t1 : Int32.toInt 1 = 1 := rfl; have t10 : Int32.toInt 10 = 10 := rfl; have t36 : Int32.toInt 36 = 36 := rfl; have t32 : Int32.toInt 32 = 32 := rfl; have t800 : Int32.toInt 800 = 800 := rfl; (try simp only [true_or, or_true, true_and, and_true, z_tn, CellsOk, CallsOk, TextOk, MemOk, OutOk, Int32.lt_iff_toInt_lt, Int32.le_iff_toInt_le, ← Int32.toInt_inj, Int32.toInt_add, Int32.toInt_sub, Int32.toInt_mul, Int32.toInt_neg, zbm, zbm', t2, t0, tm1, t1, t10, t36, t32, t800] at c2 c3 c14 c16 c17 hi hw hw2 k1 k12 k13 ⊢) <;> omega)) ?_
                    refine lv_lstore (lv' := [(4, .long (v4 / x2.toInt64)), (9, .int ((v4 - v4 / x2.toInt64 * x2.toInt64).toInt32)), (8, .int v8), (7, .int q12), (6, .int 1), (0, .ref h), (1, .long x1), (3, .int x2)]) hx hb d_Out_saidNumber_143 hl (by decide) rfl (fun ls hl => ?_)
                    refine lv_iinc (v := v8 + (-1)) (lv' := [(8, .int (v8 + (-1))), (4, .long (v4 / x2.toInt64)), (9, .int ((v4 - v4 / x2.toInt64 * x2.toInt64).toInt32)), (7, .int q12), (6, .int 1), (0, .ref h), (1, .long x1), (3, .int x2)]) hx hb d_Out_saidNumber_145 hl (k := 2) rfl rfl (by decide) rfl (fun ls hl => ?_)
                    refine lv_goto (tgt := 88) hx hb d_Out_saidNumber_148 (by decide) ?_
                    exact ih (v8 + (-1)) (v4 / x2.toInt64) (upd z1_f (n + v8).toNatClampNeg ((97 + ((v4 - v4 / x2.toInt64 * x2.toInt64).toInt32)) - 10)) (by have := ti_lo v8; have := ti_hi v8; have := ti_lo n; have := ti_hi n; have := ti_lo x2; have := ti_hi x2; have := ti_lo q1; have := ti_hi q1; have := ti_lo q12; have := ti_hi q12; have := ti_lo q13; have := ti_hi q13; have tm1 : Int32.toInt (-1) = -1 := rfl; have t1 : Int32.toInt 1 = 1 := rfl; have t0 : Int32.toInt 0 = 0 := rfl; have t10 : Int32.toInt 10 = 10 := rfl; have t2 : Int32.toInt 2 = 2 := rfl; have t36 : Int32.toInt 36 = 36 := rfl; have t32 : Int32.toInt 32 = 32 := rfl; have t800 : Int32.toInt 800 = 800 := rfl; (try simp only [true_or, or_true, true_and, and_true, z_tn, CellsOk, CallsOk, TextOk, MemOk, OutOk, Int32.lt_iff_toInt_lt, Int32.le_iff_toInt_le, ← Int32.toInt_inj, Int32.toInt_add, Int32.toInt_sub, Int32.toInt_mul, Int32.toInt_neg, zbm, zbm', tm1, t1, t0, t10, t2, t36, t32, t800] at c2 c3 c14 c16 c17 hi hw hw2 k1 k12 k13 hk ⊢) <;> omega) (by have := ti_lo v8; have := ti_hi v8; have := ti_lo n; have := ti_hi n; have := ti_lo x2; have := ti_hi x2; have := ti_lo q1; have := ti_hi q1; have := ti_lo q12; have := ti_hi q12; have := ti_lo q13; have := ti_hi q13; have tm1 : Int32.toInt (-1) = -1 := rfl; have t1 : Int32.toInt 1 = 1 := rfl; have t0 : Int32.toInt 0 = 0 := rfl; have t10 : Int32.toInt 10 = 10 := rfl; have t2 : Int32.toInt 2 = 2 := rfl; have t36 : Int32.toInt 36 = 36 := rfl; have t32 : Int32.toInt 32 = 32 := rfl; have t800 : Int32.toInt 800 = 800 := rfl; (try simp only [true_or, or_true, true_and, and_true, z_tn, CellsOk, CallsOk, TextOk, MemOk, OutOk, Int32.lt_iff_toInt_lt, Int32.le_iff_toInt_le, ← Int32.toInt_inj, Int32.toInt_add, Int32.toInt_sub, Int32.toInt_mul, Int32.toInt_neg, zbm, zbm', tm1, t1, t0, t10, t2, t36, t32, t800] at c2 c3 c14 c16 c17 hi hw hw2 k1 k12 k13 ⊢) <;> omega) (by have := ti_lo v8; have := ti_hi v8; have := ti_lo n; have := ti_hi n; have := ti_lo x2; have := ti_hi x2; have := ti_lo q1; have := ti_hi q1; have := ti_lo q12; have := ti_hi q12; have := ti_lo q13; have := ti_hi q13; have tm1 : Int32.toInt (-1) = -1 := rfl; have t1 : Int32.toInt 1 = 1 := rfl; have t0 : Int32.toInt 0 = 0 := rfl; have t10 : Int32.toInt 10 = 10 := rfl; have t2 : Int32.toInt 2 = 2 := rfl; have t36 : Int32.toInt 36 = 36 := rfl; have t32 : Int32.toInt 32 = 32 := rfl; have t800 : Int32.toInt 800 = 800 := rfl; (try simp only [true_or, or_true, true_and, and_true, z_tn, CellsOk, CallsOk, TextOk, MemOk, OutOk, Int32.lt_iff_toInt_lt, Int32.le_iff_toInt_le, ← Int32.toInt_inj, Int32.toInt_add, Int32.toInt_sub, Int32.toInt_mul, Int32.toInt_neg, zbm, zbm', tm1, t1, t0, t10, t2, t36, t32, t800] at c2 c3 c14 c16 c17 hi hw hw2 k1 k12 k13 ⊢) <;> omega) _ _ _ hP hD hS (lv_sub hl [0, 3, 4, 1, 5, 6, 7] rfl) hF
                  · have hF := hF.trans (if_neg c17)
                    refine lv_bipush (v := 48) hx hb d_Out_saidNumber_121 (by decide) ?_
                    refine lv_iload hx hb d_Out_saidNumber_123 (lv_at hl 0 rfl) ?_
                    refine lv_iadd hx hb d_Out_saidNumber_125 ?_
                    refine lv_goto (tgt := 137) hx hb d_Out_saidNumber_126 (by decide) ?_
                    refine va_iast hx hb hK hP hD hS 1 0 rfl rfl (by have := ti_lo n; have := ti_hi n; have := ti_lo v8; have := ti_hi v8; have := ti_lo x2; have := ti_hi x2; have := ti_lo q1; have := ti_hi q1; have := ti_lo q12; have := ti_hi q12; have := ti_lo q13; have := ti_hi q13; have t800 : Int32.toInt 800 = 800 := rfl; have t0 : Int32.toInt 0 = 0 := rfl; have tm1 : Int32.toInt (-1) = -1 := rfl; have t1 : Int32.toInt 1 = 1 := rfl; have t10 : Int32.toInt 10 = 10 := rfl; have t2 : Int32.toInt 2 = 2 := rfl; have t36 : Int32.toInt 36 = 36 := rfl; have t32 : Int32.toInt 32 = 32 := rfl; rw [vp_in_iff]; (try simp only [true_or, or_true, true_and, and_true, z_tn, CellsOk, CallsOk, TextOk, MemOk, OutOk, Int32.lt_iff_toInt_lt, Int32.le_iff_toInt_le, ← Int32.toInt_inj, Int32.toInt_add, Int32.toInt_sub, Int32.toInt_mul, Int32.toInt_neg, zbm, zbm', t800, t0, tm1, t1, t10, t2, t36, t32] at c2 c3 c14 c16 c17 hi hw hw2 k1 k12 k13 ⊢) <;> omega) d_Out_saidNumber_137 (fun H locs hP hD hS => ?_)
                    have hP : va_P D classes [(h, .inr (5, [.ref a, .int n])), (a, .inl (cI, 800, .inl (upd z1_f (n + v8).toNatClampNeg (48 + ((v4 - v4 / x2.toInt64 * x2.toInt64).toInt32)))))] H := hP
                    have hD : va_D A [(h, .inr (5, [.ref a, .int n])), (a, .inl (cI, 800, .inl (upd z1_f (n + v8).toNatClampNeg (48 + ((v4 - v4 / x2.toInt64 * x2.toInt64).toInt32)))))] := hD
                    refine lv_lload hx hb d_Out_saidNumber_138 (lv_at hl 4 rfl) ?_
                    refine lv_iload_n hx hb d_Out_saidNumber_140 rfl (lv_at hl 7 rfl) ?_
                    refine lv_i2l (v := x2.toInt64) hx hb d_Out_saidNumber_141 rfl ?_
                    refine lv_ldiv hx hb d_Out_saidNumber_142 (z_l0 (by have := ti_lo n; have := ti_hi n; have := ti_lo x2; have := ti_hi x2; have := ti_lo q1; have := ti_hi q1; have := ti_lo q12; have := ti_hi q12; have := ti_lo q13; have := ti_hi q13; have := ti_lo v8; have := ti_hi v8; have t2 : Int32.toInt 2 = 2 := rfl; have t0 : Int32.toInt 0 = 0 := rfl; have tm1 : Int32.toInt (-1) = -1 := rfl; have t1 : Int32.toInt 1 = 1 := rfl; have t10 : Int32.toInt 10 = 10 := rfl; have t36 : Int32.toInt 36 = 36 := rfl; have t32 : Int32.toInt 32 = 32 := rfl; have t800 : Int32.toInt 800 = 800 := rfl; (try simp only [true_or, or_true, true_and, and_true, z_tn, CellsOk, CallsOk, TextOk, MemOk, OutOk, Int32.lt_iff_toInt_lt, Int32.le_iff_toInt_le, ← Int32.toInt_inj, Int32.toInt_add, Int32.toInt_sub, Int32.toInt_mul, Int32.toInt_neg, zbm, zbm', t2, t0, tm1, t1, t10, t36, t32, t800] at c2 c3 c14 c16 c17 hi hw hw2 k1 k12 k13 ⊢) <;> omega)) ?_
                    refine lv_lstore (lv' := [(4, .long (v4 / x2.toInt64)), (9, .int ((v4 - v4 / x2.toInt64 * x2.toInt64).toInt32)), (8, .int v8), (7, .int q12), (6, .int 1), (0, .ref h), (1, .long x1), (3, .int x2)]) hx hb d_Out_saidNumber_143 hl (by decide) rfl (fun ls hl => ?_)
                    refine lv_iinc (v := v8 + (-1)) (lv' := [(8, .int (v8 + (-1))), (4, .long (v4 / x2.toInt64)), (9, .int ((v4 - v4 / x2.toInt64 * x2.toInt64).toInt32)), (7, .int q12), (6, .int 1), (0, .ref h), (1, .long x1), (3, .int x2)]) hx hb d_Out_saidNumber_145 hl (k := 2) rfl rfl (by decide) rfl (fun ls hl => ?_)
                    refine lv_goto (tgt := 88) hx hb d_Out_saidNumber_148 (by decide) ?_
                    exact ih (v8 + (-1)) (v4 / x2.toInt64) (upd z1_f (n + v8).toNatClampNeg (48 + ((v4 - v4 / x2.toInt64 * x2.toInt64).toInt32))) (by have := ti_lo v8; have := ti_hi v8; have := ti_lo n; have := ti_hi n; have := ti_lo x2; have := ti_hi x2; have := ti_lo q1; have := ti_hi q1; have := ti_lo q12; have := ti_hi q12; have := ti_lo q13; have := ti_hi q13; have tm1 : Int32.toInt (-1) = -1 := rfl; have t1 : Int32.toInt 1 = 1 := rfl; have t0 : Int32.toInt 0 = 0 := rfl; have t10 : Int32.toInt 10 = 10 := rfl; have t2 : Int32.toInt 2 = 2 := rfl; have t36 : Int32.toInt 36 = 36 := rfl; have t32 : Int32.toInt 32 = 32 := rfl; have t800 : Int32.toInt 800 = 800 := rfl; (try simp only [true_or, or_true, true_and, and_true, z_tn, CellsOk, CallsOk, TextOk, MemOk, OutOk, Int32.lt_iff_toInt_lt, Int32.le_iff_toInt_le, ← Int32.toInt_inj, Int32.toInt_add, Int32.toInt_sub, Int32.toInt_mul, Int32.toInt_neg, zbm, zbm', tm1, t1, t0, t10, t2, t36, t32, t800] at c2 c3 c14 c16 c17 hi hw hw2 k1 k12 k13 hk ⊢) <;> omega) (by have := ti_lo v8; have := ti_hi v8; have := ti_lo n; have := ti_hi n; have := ti_lo x2; have := ti_hi x2; have := ti_lo q1; have := ti_hi q1; have := ti_lo q12; have := ti_hi q12; have := ti_lo q13; have := ti_hi q13; have tm1 : Int32.toInt (-1) = -1 := rfl; have t1 : Int32.toInt 1 = 1 := rfl; have t0 : Int32.toInt 0 = 0 := rfl; have t10 : Int32.toInt 10 = 10 := rfl; have t2 : Int32.toInt 2 = 2 := rfl; have t36 : Int32.toInt 36 = 36 := rfl; have t32 : Int32.toInt 32 = 32 := rfl; have t800 : Int32.toInt 800 = 800 := rfl; (try simp only [true_or, or_true, true_and, and_true, z_tn, CellsOk, CallsOk, TextOk, MemOk, OutOk, Int32.lt_iff_toInt_lt, Int32.le_iff_toInt_le, ← Int32.toInt_inj, Int32.toInt_add, Int32.toInt_sub, Int32.toInt_mul, Int32.toInt_neg, zbm, zbm', tm1, t1, t0, t10, t2, t36, t32, t800] at c2 c3 c14 c16 c17 hi hw hw2 k1 k12 k13 ⊢) <;> omega) (by have := ti_lo v8; have := ti_hi v8; have := ti_lo n; have := ti_hi n; have := ti_lo x2; have := ti_hi x2; have := ti_lo q1; have := ti_hi q1; have := ti_lo q12; have := ti_hi q12; have := ti_lo q13; have := ti_hi q13; have tm1 : Int32.toInt (-1) = -1 := rfl; have t1 : Int32.toInt 1 = 1 := rfl; have t0 : Int32.toInt 0 = 0 := rfl; have t10 : Int32.toInt 10 = 10 := rfl; have t2 : Int32.toInt 2 = 2 := rfl; have t36 : Int32.toInt 36 = 36 := rfl; have t32 : Int32.toInt 32 = 32 := rfl; have t800 : Int32.toInt 800 = 800 := rfl; (try simp only [true_or, or_true, true_and, and_true, z_tn, CellsOk, CallsOk, TextOk, MemOk, OutOk, Int32.lt_iff_toInt_lt, Int32.le_iff_toInt_le, ← Int32.toInt_inj, Int32.toInt_add, Int32.toInt_sub, Int32.toInt_mul, Int32.toInt_neg, zbm, zbm', tm1, t1, t0, t10, t2, t36, t32, t800] at c2 c3 c14 c16 c17 hi hw hw2 k1 k12 k13 ⊢) <;> omega) _ _ _ hP hD hS (lv_sub hl [0, 3, 4, 1, 5, 6, 7] rfl) hF
            exact loop (((((1 + q12) - 1).toInt + 1).toNat) + 1) ((1 + q12) - 1) (-x1) (upd f n.toNatClampNeg 45) (Nat.lt_succ_self _) (by have := ti_lo q12; have := ti_hi q12; have := ti_lo n; have := ti_hi n; have := ti_lo x2; have := ti_hi x2; have := ti_lo q1; have := ti_hi q1; have := ti_lo q13; have := ti_hi q13; have tm1 : Int32.toInt (-1) = -1 := rfl; have t1 : Int32.toInt 1 = 1 := rfl; have t0 : Int32.toInt 0 = 0 := rfl; have t2 : Int32.toInt 2 = 2 := rfl; have t36 : Int32.toInt 36 = 36 := rfl; have t32 : Int32.toInt 32 = 32 := rfl; have t800 : Int32.toInt 800 = 800 := rfl; (try simp only [true_or, or_true, true_and, and_true, z_tn, CellsOk, CallsOk, TextOk, MemOk, OutOk, Int32.lt_iff_toInt_lt, Int32.le_iff_toInt_le, ← Int32.toInt_inj, Int32.toInt_add, Int32.toInt_sub, Int32.toInt_mul, Int32.toInt_neg, zbm, zbm', tm1, t1, t0, t2, t36, t32, t800] at c2 c3 c14 hi k1 k12 k13 ⊢) <;> omega) (by have := ti_lo q12; have := ti_hi q12; have := ti_lo n; have := ti_hi n; have := ti_lo x2; have := ti_hi x2; have := ti_lo q1; have := ti_hi q1; have := ti_lo q13; have := ti_hi q13; have t1 : Int32.toInt 1 = 1 := rfl; have t0 : Int32.toInt 0 = 0 := rfl; have t2 : Int32.toInt 2 = 2 := rfl; have t36 : Int32.toInt 36 = 36 := rfl; have t32 : Int32.toInt 32 = 32 := rfl; have t800 : Int32.toInt 800 = 800 := rfl; (try simp only [true_or, or_true, true_and, and_true, z_tn, CellsOk, CallsOk, TextOk, MemOk, OutOk, Int32.lt_iff_toInt_lt, Int32.le_iff_toInt_le, ← Int32.toInt_inj, Int32.toInt_add, Int32.toInt_sub, Int32.toInt_mul, Int32.toInt_neg, zbm, zbm', t1, t0, t2, t36, t32, t800] at c2 c3 c14 hi k1 k12 k13 ⊢) <;> omega) _ _ _ hP hD hS (lv_sub hl [0, 1, 2, 3, 4, 5, 6] rfl) hF
        · have hF := hF.trans (if_pos c14)
          refine lv_bipush (v := (-17)) hx hb d_Out_saidNumber_59 (by decide) ?_
          exact W.iret (v := (-17)) hx hb hr (fun t ht hW => ⟨⟨_, _, rfl, ⟨hF.symm, hi⟩, ⟨by rw [ht]; exact hP, va_K.moved hW.alike hK, hD⟩⟩, hS.F ht⟩) hS.2.2 d_Out_saidNumber_61
  · have hF := hF.trans (if_pos c2)
    refine lv_bipush (v := (-40)) hx hb d_Out_saidNumber_7 (by decide) ?_
    exact W.iret (v := (-40)) hx hb hr (fun t ht hW => ⟨⟨_, _, rfl, ⟨hF.symm, hi⟩, ⟨by rw [ht]; exact hP, va_K.moved hW.alike hK, hD⟩⟩, hS.F ht⟩) hS.2.2 d_Out_saidNumber_9
