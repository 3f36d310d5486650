theorem co_Text_size : (Jvm.Cond.code ({ cls := "ColonMachine$Text", name := "size", desc := "()I" } : Jvm.MethodName) prog_9_method_2_code (1 : Nat) (Option.some Jvm.ClassFile.FieldType.int)) ∈ TB := tbI2 _ (List.mem_of_getElem? (i := 146) rfl) rfl
theorem fl_Text_19 : (Jvm.Cond.fieldLink "ColonMachine$Text" (19 : Nat) "ColonMachine$Text" "end" "I") ∈ TB := tbI1 _ (List.mem_of_getElem? (i := 112) rfl) rfl
theorem fl_Text_15 : (Jvm.Cond.fieldLink "ColonMachine$Text" (15 : Nat) "ColonMachine$Text" "begin" "I") ∈ TB := tbI1 _ (List.mem_of_getElem? (i := 111) rfl) rfl
theorem co_Text_hasRoomFor : (Jvm.Cond.code ({ cls := "ColonMachine$Text", name := "hasRoomFor", desc := "(I)Z" } : Jvm.MethodName) prog_9_method_3_code (2 : Nat) (Option.some Jvm.ClassFile.FieldType.boolean)) ∈ TB := tbI2 _ (List.mem_of_getElem? (i := 142) rfl) rfl
theorem ml_Text_28 : (Jvm.Cond.methodLink "ColonMachine$Text" (28 : Nat) ({ cls := "ColonMachine$Text", name := "size", desc := "()I" } : Jvm.MethodName)) ∈ TB := tbI2 _ (List.mem_of_getElem? (i := 143) rfl) rfl
theorem im_Text_size : (Jvm.Cond.instanceMethod ({ cls := "ColonMachine$Text", name := "size", desc := "()I" } : Jvm.MethodName)) ∈ TB := tbI2 _ (List.mem_of_getElem? (i := 144) rfl) rfl
theorem se_Text_size : (Jvm.Cond.selects "ColonMachine$Text" ({ cls := "ColonMachine$Text", name := "size", desc := "()I" } : Jvm.MethodName) ({ cls := "ColonMachine$Text", name := "size", desc := "()I" } : Jvm.MethodName)) ∈ TB := tbI2 _ (List.mem_of_getElem? (i := 145) rfl) rfl
theorem in_Text : (Jvm.Cond.initialized "ColonMachine$Text") ∈ TB := tbI1 _ (List.mem_of_getElem? (i := 6) rfl) rfl
theorem co_Text_empty : (Jvm.Cond.code ({ cls := "ColonMachine$Text", name := "empty", desc := "()V" } : Jvm.MethodName) prog_9_method_4_code (1 : Nat) (Option.none : Option Jvm.ClassFile.FieldType)) ∈ TB := tbI2 _ (List.mem_of_getElem? (i := 173) rfl) rfl
theorem fl_Text_22 : (Jvm.Cond.fieldLink "ColonMachine$Text" (22 : Nat) "ColonMachine$Text" "wordBegin" "I") ∈ TB := tbI1 _ (List.mem_of_getElem? (i := 113) rfl) rfl
theorem fl_Text_25 : (Jvm.Cond.fieldLink "ColonMachine$Text" (25 : Nat) "ColonMachine$Text" "wordEnd" "I") ∈ TB := tbI1 _ (List.mem_of_getElem? (i := 114) rfl) rfl
theorem co_Text_append : (Jvm.Cond.code ({ cls := "ColonMachine$Text", name := "append", desc := "(JI)V" } : Jvm.MethodName) prog_9_method_5_code (6 : Nat) (Option.none : Option Jvm.ClassFile.FieldType)) ∈ TB := tbI2 _ (List.mem_of_getElem? (i := 166) rfl) rfl
theorem fl_Text_11 : (Jvm.Cond.fieldLink "ColonMachine$Text" (11 : Nat) "ColonMachine$Text" "bytes" "[I") ∈ TB := tbI1 _ (List.mem_of_getElem? (i := 110) rfl) rfl
theorem ml_Text_32 : (Jvm.Cond.methodLink "ColonMachine$Text" (32 : Nat) ({ cls := "java/lang/System", name := "arraycopy", desc := "(Ljava/lang/Object;ILjava/lang/Object;II)V" } : Jvm.MethodName)) ∈ TB := tbI2 _ (List.mem_of_getElem? (i := 167) rfl) rfl
theorem na_System_arraycopy : (Jvm.Cond.native ({ cls := "java/lang/System", name := "arraycopy", desc := "(Ljava/lang/Object;ILjava/lang/Object;II)V" } : Jvm.MethodName)) ∈ TB := tbI2 _ (List.mem_of_getElem? (i := 169) rfl) rfl
theorem sm_System_arraycopy : (Jvm.Cond.static ({ cls := "java/lang/System", name := "arraycopy", desc := "(Ljava/lang/Object;ILjava/lang/Object;II)V" } : Jvm.MethodName)) ∈ TB := tbI2 _ (List.mem_of_getElem? (i := 168) rfl) rfl
theorem in_System : (Jvm.Cond.initialized "java/lang/System") ∈ TB := tbI1 _ (List.mem_of_getElem? (i := 16) rfl) rfl
theorem ml_Text_38 : (Jvm.Cond.methodLink "ColonMachine$Text" (38 : Nat) ({ cls := "ColonMachine$Text", name := "empty", desc := "()V" } : Jvm.MethodName)) ∈ TB := tbI2 _ (List.mem_of_getElem? (i := 170) rfl) rfl
theorem im_Text_empty : (Jvm.Cond.instanceMethod ({ cls := "ColonMachine$Text", name := "empty", desc := "()V" } : Jvm.MethodName)) ∈ TB := tbI2 _ (List.mem_of_getElem? (i := 171) rfl) rfl
theorem se_Text_empty : (Jvm.Cond.selects "ColonMachine$Text" ({ cls := "ColonMachine$Text", name := "empty", desc := "()V" } : Jvm.MethodName) ({ cls := "ColonMachine$Text", name := "empty", desc := "()V" } : Jvm.MethodName)) ∈ TB := tbI2 _ (List.mem_of_getElem? (i := 172) rfl) rfl
theorem co_Text_hasMore : (Jvm.Cond.code ({ cls := "ColonMachine$Text", name := "hasMore", desc := "()Z" } : Jvm.MethodName) prog_9_method_6_code (1 : Nat) (Option.some Jvm.ClassFile.FieldType.boolean)) ∈ TB := tbI2 _ (List.mem_of_getElem? (i := 194) rfl) rfl
theorem co_Text_lower : (Jvm.Cond.code ({ cls := "ColonMachine$Text", name := "lower", desc := "(I)I" } : Jvm.MethodName) prog_9_method_8_code (1 : Nat) (Option.some Jvm.ClassFile.FieldType.int)) ∈ TB := tbI2 _ (List.mem_of_getElem? (i := 206) rfl) rfl
theorem co_Text_readWord : (Jvm.Cond.code ({ cls := "ColonMachine$Text", name := "readWord", desc := "()Z" } : Jvm.MethodName) prog_9_method_7_code (2 : Nat) (Option.some Jvm.ClassFile.FieldType.boolean)) ∈ TB := tbI2 _ (List.mem_of_getElem? (i := 202) rfl) rfl
theorem ml_Text_41 : (Jvm.Cond.methodLink "ColonMachine$Text" (41 : Nat) ({ cls := "ColonMachine$Text", name := "hasMore", desc := "()Z" } : Jvm.MethodName)) ∈ TB := tbI2 _ (List.mem_of_getElem? (i := 203) rfl) rfl
theorem im_Text_hasMore : (Jvm.Cond.instanceMethod ({ cls := "ColonMachine$Text", name := "hasMore", desc := "()Z" } : Jvm.MethodName)) ∈ TB := tbI2 _ (List.mem_of_getElem? (i := 192) rfl) rfl
theorem se_Text_hasMore : (Jvm.Cond.selects "ColonMachine$Text" ({ cls := "ColonMachine$Text", name := "hasMore", desc := "()Z" } : Jvm.MethodName) ({ cls := "ColonMachine$Text", name := "hasMore", desc := "()Z" } : Jvm.MethodName)) ∈ TB := tbI2 _ (List.mem_of_getElem? (i := 193) rfl) rfl
theorem ml_Text_45 : (Jvm.Cond.methodLink "ColonMachine$Text" (45 : Nat) ({ cls := "ColonMachine$Text", name := "lower", desc := "(I)I" } : Jvm.MethodName)) ∈ TB := tbI2 _ (List.mem_of_getElem? (i := 204) rfl) rfl
theorem sm_Text_lower : (Jvm.Cond.static ({ cls := "ColonMachine$Text", name := "lower", desc := "(I)I" } : Jvm.MethodName)) ∈ TB := tbI2 _ (List.mem_of_getElem? (i := 205) rfl) rfl
theorem co_Text_name : (Jvm.Cond.code ({ cls := "ColonMachine$Text", name := "name", desc := "()J" } : Jvm.MethodName) prog_9_method_9_code (4 : Nat) (Option.some Jvm.ClassFile.FieldType.long)) ∈ TB := tbI2 _ (List.mem_of_getElem? (i := 218) rfl) rfl
theorem co_Text_digitsBegin : (Jvm.Cond.code ({ cls := "ColonMachine$Text", name := "digitsBegin", desc := "()I" } : Jvm.MethodName) prog_9_method_11_code (2 : Nat) (Option.some Jvm.ClassFile.FieldType.int)) ∈ TB := tbI3 _ (List.mem_of_getElem? (i := 40) rfl) rfl
theorem co_Text_digit : (Jvm.Cond.code ({ cls := "ColonMachine$Text", name := "digit", desc := "(I)I" } : Jvm.MethodName) prog_9_method_12_code (1 : Nat) (Option.some Jvm.ClassFile.FieldType.int)) ∈ TB := tbI3 _ (List.mem_of_getElem? (i := 46) rfl) rfl
abbrev b_Text_size : ByteArray := prog_9_method_2_code
def y_Text_size : MethodName := { cls := "ColonMachine$Text", name := "size", desc := "()I" }
abbrev w_Text_size : List Cond := .code y_Text_size b_Text_size 1 (Option.some Jvm.ClassFile.FieldType.int) :: TB
abbrev b_Text_hasRoomFor : ByteArray := prog_9_method_3_code
def y_Text_hasRoomFor : MethodName := { cls := "ColonMachine$Text", name := "hasRoomFor", desc := "(I)Z" }
abbrev w_Text_hasRoomFor : List Cond := .code y_Text_hasRoomFor b_Text_hasRoomFor 2 (Option.some Jvm.ClassFile.FieldType.boolean) :: TB
theorem v_Text_size : y_Text_size.cls = "ColonMachine$Text" ∧ y_Text_size.cls ≠ "java/lang/invoke/MethodHandle" ∧ y_Text_size.cls ≠ "java/lang/invoke/VarHandle" ∧ (parseMethodDescriptor y_Text_size.desc).map (fun d => d.parameters.length) = some 0 := by decide +kernel
abbrev b_Text_empty : ByteArray := prog_9_method_4_code
def y_Text_empty : MethodName := { cls := "ColonMachine$Text", name := "empty", desc := "()V" }
abbrev w_Text_empty : List Cond := .code y_Text_empty b_Text_empty 1 (Option.none : Option Jvm.ClassFile.FieldType) :: TB
abbrev b_Text_append : ByteArray := prog_9_method_5_code
def y_Text_append : MethodName := { cls := "ColonMachine$Text", name := "append", desc := "(JI)V" }
abbrev w_Text_append : List Cond := .code y_Text_append b_Text_append 6 (Option.none : Option Jvm.ClassFile.FieldType) :: TB
theorem v_Text_empty : y_Text_empty.cls = "ColonMachine$Text" ∧ y_Text_empty.cls ≠ "java/lang/invoke/MethodHandle" ∧ y_Text_empty.cls ≠ "java/lang/invoke/VarHandle" ∧ (parseMethodDescriptor y_Text_empty.desc).map (fun d => d.parameters.length) = some 0 := by decide +kernel
abbrev b_Text_hasMore : ByteArray := prog_9_method_6_code
def y_Text_hasMore : MethodName := { cls := "ColonMachine$Text", name := "hasMore", desc := "()Z" }
abbrev w_Text_hasMore : List Cond := .code y_Text_hasMore b_Text_hasMore 1 (Option.some Jvm.ClassFile.FieldType.boolean) :: TB
abbrev b_Text_lower : ByteArray := prog_9_method_8_code
def y_Text_lower : MethodName := { cls := "ColonMachine$Text", name := "lower", desc := "(I)I" }
abbrev w_Text_lower : List Cond := .code y_Text_lower b_Text_lower 1 (Option.some Jvm.ClassFile.FieldType.int) :: TB
abbrev b_Text_readWord : ByteArray := prog_9_method_7_code
def y_Text_readWord : MethodName := { cls := "ColonMachine$Text", name := "readWord", desc := "()Z" }
abbrev w_Text_readWord : List Cond := .code y_Text_readWord b_Text_readWord 2 (Option.some Jvm.ClassFile.FieldType.boolean) :: TB
theorem v_Text_hasMore : y_Text_hasMore.cls = "ColonMachine$Text" ∧ y_Text_hasMore.cls ≠ "java/lang/invoke/MethodHandle" ∧ y_Text_hasMore.cls ≠ "java/lang/invoke/VarHandle" ∧ (parseMethodDescriptor y_Text_hasMore.desc).map (fun d => d.parameters.length) = some 0 := by decide +kernel
theorem vs_Text_lower : y_Text_lower.cls ≠ "java/lang/invoke/MethodHandle" ∧ y_Text_lower.cls ≠ "java/lang/invoke/VarHandle" ∧ (parseMethodDescriptor y_Text_lower.desc).map (fun d => d.parameters.length) = some 1 := by decide +kernel
abbrev b_Text_name : ByteArray := prog_9_method_9_code
def y_Text_name : MethodName := { cls := "ColonMachine$Text", name := "name", desc := "()J" }
abbrev w_Text_name : List Cond := .code y_Text_name b_Text_name 4 (Option.some Jvm.ClassFile.FieldType.long) :: TB
abbrev b_Text_digitsBegin : ByteArray := prog_9_method_11_code
def y_Text_digitsBegin : MethodName := { cls := "ColonMachine$Text", name := "digitsBegin", desc := "()I" }
abbrev w_Text_digitsBegin : List Cond := .code y_Text_digitsBegin b_Text_digitsBegin 2 (Option.some Jvm.ClassFile.FieldType.int) :: TB
abbrev b_Text_digit : ByteArray := prog_9_method_12_code
def y_Text_digit : MethodName := { cls := "ColonMachine$Text", name := "digit", desc := "(I)I" }
abbrev w_Text_digit : List Cond := .code y_Text_digit b_Text_digit 1 (Option.some Jvm.ClassFile.FieldType.int) :: TB
theorem d_Text_size_0 : decode b_Text_size 0 = .ok (.aload_n 0, 1) := by decide +kernel
theorem d_Text_size_1 : decode b_Text_size 1 = .ok (.getfield 19, 3) := by decide +kernel
theorem d_Text_size_4 : decode b_Text_size 4 = .ok (.aload_n 0, 1) := by decide +kernel
theorem d_Text_size_5 : decode b_Text_size 5 = .ok (.getfield 15, 3) := by decide +kernel
theorem d_Text_size_8 : decode b_Text_size 8 = .ok (.isub, 1) := by decide +kernel
theorem d_Text_size_9 : decode b_Text_size 9 = .ok (.ireturn, 1) := by decide +kernel
theorem d_Text_hasRoomFor_0 : decode b_Text_hasRoomFor 0 = .ok (.iload_n 1, 1) := by decide +kernel
theorem d_Text_hasRoomFor_1 : decode b_Text_hasRoomFor 1 = .ok (.sipush 500, 3) := by decide +kernel
theorem d_Text_hasRoomFor_4 : decode b_Text_hasRoomFor 4 = .ok (.aload_n 0, 1) := by decide +kernel
theorem d_Text_hasRoomFor_5 : decode b_Text_hasRoomFor 5 = .ok (.invokevirtual 28, 3) := by decide +kernel
theorem d_Text_hasRoomFor_8 : decode b_Text_hasRoomFor 8 = .ok (.isub, 1) := by decide +kernel
theorem d_Text_hasRoomFor_9 : decode b_Text_hasRoomFor 9 = .ok (.if_icmp .gt 7, 3) := by decide +kernel
theorem d_Text_hasRoomFor_16 : decode b_Text_hasRoomFor 16 = .ok (.iconst 0, 1) := by decide +kernel
theorem d_Text_hasRoomFor_17 : decode b_Text_hasRoomFor 17 = .ok (.ireturn, 1) := by decide +kernel
theorem d_Text_hasRoomFor_12 : decode b_Text_hasRoomFor 12 = .ok (.iconst 1, 1) := by decide +kernel
theorem d_Text_hasRoomFor_13 : decode b_Text_hasRoomFor 13 = .ok (.goto 4, 3) := by decide +kernel
theorem d_Text_empty_0 : decode b_Text_empty 0 = .ok (.aload_n 0, 1) := by decide +kernel
theorem d_Text_empty_1 : decode b_Text_empty 1 = .ok (.iconst 0, 1) := by decide +kernel
theorem d_Text_empty_2 : decode b_Text_empty 2 = .ok (.putfield 15, 3) := by decide +kernel
theorem d_Text_empty_5 : decode b_Text_empty 5 = .ok (.aload_n 0, 1) := by decide +kernel
theorem d_Text_empty_6 : decode b_Text_empty 6 = .ok (.iconst 0, 1) := by decide +kernel
theorem d_Text_empty_7 : decode b_Text_empty 7 = .ok (.putfield 19, 3) := by decide +kernel
theorem d_Text_empty_10 : decode b_Text_empty 10 = .ok (.aload_n 0, 1) := by decide +kernel
theorem d_Text_empty_11 : decode b_Text_empty 11 = .ok (.iconst 0, 1) := by decide +kernel
theorem d_Text_empty_12 : decode b_Text_empty 12 = .ok (.putfield 22, 3) := by decide +kernel
theorem d_Text_empty_15 : decode b_Text_empty 15 = .ok (.aload_n 0, 1) := by decide +kernel
theorem d_Text_empty_16 : decode b_Text_empty 16 = .ok (.iconst 0, 1) := by decide +kernel
theorem d_Text_empty_17 : decode b_Text_empty 17 = .ok (.putfield 25, 3) := by decide +kernel
theorem d_Text_empty_20 : decode b_Text_empty 20 = .ok (.return_, 1) := by decide +kernel
theorem d_Text_append_0 : decode b_Text_append 0 = .ok (.aload_n 0, 1) := by decide +kernel
theorem d_Text_append_1 : decode b_Text_append 1 = .ok (.invokevirtual 28, 3) := by decide +kernel
theorem d_Text_append_4 : decode b_Text_append 4 = .ok (.istore 4, 2) := by decide +kernel
theorem d_Text_append_6 : decode b_Text_append 6 = .ok (.aload_n 0, 1) := by decide +kernel
theorem d_Text_append_7 : decode b_Text_append 7 = .ok (.getfield 11, 3) := by decide +kernel
theorem d_Text_append_10 : decode b_Text_append 10 = .ok (.aload_n 0, 1) := by decide +kernel
theorem d_Text_append_11 : decode b_Text_append 11 = .ok (.getfield 15, 3) := by decide +kernel
theorem d_Text_append_14 : decode b_Text_append 14 = .ok (.aload_n 0, 1) := by decide +kernel
theorem d_Text_append_15 : decode b_Text_append 15 = .ok (.getfield 11, 3) := by decide +kernel
theorem d_Text_append_18 : decode b_Text_append 18 = .ok (.iconst 0, 1) := by decide +kernel
theorem d_Text_append_19 : decode b_Text_append 19 = .ok (.iload 4, 2) := by decide +kernel
theorem d_Text_append_21 : decode b_Text_append 21 = .ok (.invokestatic 32, 3) := by decide +kernel
theorem d_Text_append_24 : decode b_Text_append 24 = .ok (.aload_n 0, 1) := by decide +kernel
theorem d_Text_append_25 : decode b_Text_append 25 = .ok (.invokevirtual 38, 3) := by decide +kernel
theorem d_Text_append_28 : decode b_Text_append 28 = .ok (.aload_n 0, 1) := by decide +kernel
theorem d_Text_append_29 : decode b_Text_append 29 = .ok (.iload 4, 2) := by decide +kernel
theorem d_Text_append_31 : decode b_Text_append 31 = .ok (.putfield 19, 3) := by decide +kernel
theorem d_Text_append_34 : decode b_Text_append 34 = .ok (.iconst 0, 1) := by decide +kernel
theorem d_Text_append_35 : decode b_Text_append 35 = .ok (.istore 5, 2) := by decide +kernel
theorem d_Text_append_37 : decode b_Text_append 37 = .ok (.iload 5, 2) := by decide +kernel
theorem d_Text_append_39 : decode b_Text_append 39 = .ok (.iload_n 3, 1) := by decide +kernel
theorem d_Text_append_40 : decode b_Text_append 40 = .ok (.if_icmp .ge 50, 3) := by decide +kernel
theorem d_Text_append_90 : decode b_Text_append 90 = .ok (.return_, 1) := by decide +kernel
theorem d_Text_append_43 : decode b_Text_append 43 = .ok (.aload_n 0, 1) := by decide +kernel
theorem d_Text_append_44 : decode b_Text_append 44 = .ok (.getfield 19, 3) := by decide +kernel
theorem d_Text_append_47 : decode b_Text_append 47 = .ok (.sipush 500, 3) := by decide +kernel
theorem d_Text_append_50 : decode b_Text_append 50 = .ok (.if_icmp .ge 40, 3) := by decide +kernel
theorem d_Text_append_53 : decode b_Text_append 53 = .ok (.aload_n 0, 1) := by decide +kernel
theorem d_Text_append_54 : decode b_Text_append 54 = .ok (.getfield 11, 3) := by decide +kernel
theorem d_Text_append_57 : decode b_Text_append 57 = .ok (.aload_n 0, 1) := by decide +kernel
theorem d_Text_append_58 : decode b_Text_append 58 = .ok (.getfield 19, 3) := by decide +kernel
theorem d_Text_append_61 : decode b_Text_append 61 = .ok (.lload_n 1, 1) := by decide +kernel
theorem d_Text_append_62 : decode b_Text_append 62 = .ok (.bipush 8, 2) := by decide +kernel
theorem d_Text_append_64 : decode b_Text_append 64 = .ok (.iload 5, 2) := by decide +kernel
theorem d_Text_append_66 : decode b_Text_append 66 = .ok (.imul, 1) := by decide +kernel
theorem d_Text_append_67 : decode b_Text_append 67 = .ok (.lushr, 1) := by decide +kernel
theorem d_Text_append_68 : decode b_Text_append 68 = .ok (.l2i, 1) := by decide +kernel
theorem d_Text_append_69 : decode b_Text_append 69 = .ok (.sipush 255, 3) := by decide +kernel
theorem d_Text_append_72 : decode b_Text_append 72 = .ok (.iand, 1) := by decide +kernel
theorem d_Text_append_73 : decode b_Text_append 73 = .ok (.iastore, 1) := by decide +kernel
theorem d_Text_append_74 : decode b_Text_append 74 = .ok (.aload_n 0, 1) := by decide +kernel
theorem d_Text_append_75 : decode b_Text_append 75 = .ok (.dup, 1) := by decide +kernel
theorem d_Text_append_76 : decode b_Text_append 76 = .ok (.getfield 19, 3) := by decide +kernel
theorem d_Text_append_79 : decode b_Text_append 79 = .ok (.iconst 1, 1) := by decide +kernel
theorem d_Text_append_80 : decode b_Text_append 80 = .ok (.iadd, 1) := by decide +kernel
theorem d_Text_append_81 : decode b_Text_append 81 = .ok (.putfield 19, 3) := by decide +kernel
theorem d_Text_append_84 : decode b_Text_append 84 = .ok (.iinc 5 1, 3) := by decide +kernel
theorem d_Text_append_87 : decode b_Text_append 87 = .ok (.goto (-50), 3) := by decide +kernel
theorem d_Text_hasMore_0 : decode b_Text_hasMore 0 = .ok (.aload_n 0, 1) := by decide +kernel
theorem d_Text_hasMore_1 : decode b_Text_hasMore 1 = .ok (.getfield 15, 3) := by decide +kernel
theorem d_Text_hasMore_4 : decode b_Text_hasMore 4 = .ok (.aload_n 0, 1) := by decide +kernel
theorem d_Text_hasMore_5 : decode b_Text_hasMore 5 = .ok (.getfield 19, 3) := by decide +kernel
theorem d_Text_hasMore_8 : decode b_Text_hasMore 8 = .ok (.if_icmp .ge 30, 3) := by decide +kernel
theorem d_Text_hasMore_38 : decode b_Text_hasMore 38 = .ok (.aload_n 0, 1) := by decide +kernel
theorem d_Text_hasMore_39 : decode b_Text_hasMore 39 = .ok (.getfield 15, 3) := by decide +kernel
theorem d_Text_hasMore_42 : decode b_Text_hasMore 42 = .ok (.aload_n 0, 1) := by decide +kernel
theorem d_Text_hasMore_43 : decode b_Text_hasMore 43 = .ok (.getfield 19, 3) := by decide +kernel
theorem d_Text_hasMore_46 : decode b_Text_hasMore 46 = .ok (.if_icmp .ge 7, 3) := by decide +kernel
theorem d_Text_hasMore_53 : decode b_Text_hasMore 53 = .ok (.iconst 0, 1) := by decide +kernel
theorem d_Text_hasMore_54 : decode b_Text_hasMore 54 = .ok (.ireturn, 1) := by decide +kernel
theorem d_Text_hasMore_11 : decode b_Text_hasMore 11 = .ok (.aload_n 0, 1) := by decide +kernel
theorem d_Text_hasMore_12 : decode b_Text_hasMore 12 = .ok (.getfield 11, 3) := by decide +kernel
theorem d_Text_hasMore_15 : decode b_Text_hasMore 15 = .ok (.aload_n 0, 1) := by decide +kernel
theorem d_Text_hasMore_16 : decode b_Text_hasMore 16 = .ok (.getfield 15, 3) := by decide +kernel
theorem d_Text_hasMore_19 : decode b_Text_hasMore 19 = .ok (.iaload, 1) := by decide +kernel
theorem d_Text_hasMore_20 : decode b_Text_hasMore 20 = .ok (.bipush 32, 2) := by decide +kernel
theorem d_Text_hasMore_22 : decode b_Text_hasMore 22 = .ok (.if_icmp .gt 16, 3) := by decide +kernel
theorem d_Text_hasMore_49 : decode b_Text_hasMore 49 = .ok (.iconst 1, 1) := by decide +kernel
theorem d_Text_hasMore_50 : decode b_Text_hasMore 50 = .ok (.goto 4, 3) := by decide +kernel
theorem d_Text_hasMore_25 : decode b_Text_hasMore 25 = .ok (.aload_n 0, 1) := by decide +kernel
theorem d_Text_hasMore_26 : decode b_Text_hasMore 26 = .ok (.dup, 1) := by decide +kernel
theorem d_Text_hasMore_27 : decode b_Text_hasMore 27 = .ok (.getfield 15, 3) := by decide +kernel
theorem d_Text_hasMore_30 : decode b_Text_hasMore 30 = .ok (.iconst 1, 1) := by decide +kernel
theorem d_Text_hasMore_31 : decode b_Text_hasMore 31 = .ok (.iadd, 1) := by decide +kernel
theorem d_Text_hasMore_32 : decode b_Text_hasMore 32 = .ok (.putfield 15, 3) := by decide +kernel
theorem d_Text_hasMore_35 : decode b_Text_hasMore 35 = .ok (.goto (-35), 3) := by decide +kernel
theorem d_Text_lower_0 : decode b_Text_lower 0 = .ok (.iload_n 0, 1) := by decide +kernel
theorem d_Text_lower_1 : decode b_Text_lower 1 = .ok (.bipush 65, 2) := by decide +kernel
theorem d_Text_lower_3 : decode b_Text_lower 3 = .ok (.if_icmp .lt 16, 3) := by decide +kernel
theorem d_Text_lower_19 : decode b_Text_lower 19 = .ok (.iload_n 0, 1) := by decide +kernel
theorem d_Text_lower_20 : decode b_Text_lower 20 = .ok (.ireturn, 1) := by decide +kernel
theorem d_Text_lower_6 : decode b_Text_lower 6 = .ok (.iload_n 0, 1) := by decide +kernel
theorem d_Text_lower_7 : decode b_Text_lower 7 = .ok (.bipush 90, 2) := by decide +kernel
theorem d_Text_lower_9 : decode b_Text_lower 9 = .ok (.if_icmp .gt 10, 3) := by decide +kernel
theorem d_Text_lower_12 : decode b_Text_lower 12 = .ok (.iload_n 0, 1) := by decide +kernel
theorem d_Text_lower_13 : decode b_Text_lower 13 = .ok (.bipush 32, 2) := by decide +kernel
theorem d_Text_lower_15 : decode b_Text_lower 15 = .ok (.iadd, 1) := by decide +kernel
theorem d_Text_lower_16 : decode b_Text_lower 16 = .ok (.goto 4, 3) := by decide +kernel
theorem d_Text_readWord_0 : decode b_Text_readWord 0 = .ok (.aload_n 0, 1) := by decide +kernel
theorem d_Text_readWord_1 : decode b_Text_readWord 1 = .ok (.invokevirtual 41, 3) := by decide +kernel
theorem d_Text_readWord_4 : decode b_Text_readWord 4 = .ok (.istore_n 1, 1) := by decide +kernel
theorem d_Text_readWord_5 : decode b_Text_readWord 5 = .ok (.aload_n 0, 1) := by decide +kernel
theorem d_Text_readWord_6 : decode b_Text_readWord 6 = .ok (.aload_n 0, 1) := by decide +kernel
theorem d_Text_readWord_7 : decode b_Text_readWord 7 = .ok (.getfield 15, 3) := by decide +kernel
theorem d_Text_readWord_10 : decode b_Text_readWord 10 = .ok (.putfield 22, 3) := by decide +kernel
theorem d_Text_readWord_13 : decode b_Text_readWord 13 = .ok (.aload_n 0, 1) := by decide +kernel
theorem d_Text_readWord_14 : decode b_Text_readWord 14 = .ok (.getfield 15, 3) := by decide +kernel
theorem d_Text_readWord_17 : decode b_Text_readWord 17 = .ok (.aload_n 0, 1) := by decide +kernel
theorem d_Text_readWord_18 : decode b_Text_readWord 18 = .ok (.getfield 19, 3) := by decide +kernel
theorem d_Text_readWord_21 : decode b_Text_readWord 21 = .ok (.if_icmp .ge 51, 3) := by decide +kernel
theorem d_Text_readWord_72 : decode b_Text_readWord 72 = .ok (.aload_n 0, 1) := by decide +kernel
theorem d_Text_readWord_73 : decode b_Text_readWord 73 = .ok (.aload_n 0, 1) := by decide +kernel
theorem d_Text_readWord_74 : decode b_Text_readWord 74 = .ok (.getfield 15, 3) := by decide +kernel
theorem d_Text_readWord_77 : decode b_Text_readWord 77 = .ok (.putfield 25, 3) := by decide +kernel
theorem d_Text_readWord_80 : decode b_Text_readWord 80 = .ok (.aload_n 0, 1) := by decide +kernel
theorem d_Text_readWord_81 : decode b_Text_readWord 81 = .ok (.getfield 15, 3) := by decide +kernel
theorem d_Text_readWord_84 : decode b_Text_readWord 84 = .ok (.aload_n 0, 1) := by decide +kernel
theorem d_Text_readWord_85 : decode b_Text_readWord 85 = .ok (.getfield 19, 3) := by decide +kernel
theorem d_Text_readWord_88 : decode b_Text_readWord 88 = .ok (.if_icmp .ge 13, 3) := by decide +kernel
theorem d_Text_readWord_101 : decode b_Text_readWord 101 = .ok (.iload_n 1, 1) := by decide +kernel
theorem d_Text_readWord_102 : decode b_Text_readWord 102 = .ok (.ireturn, 1) := by decide +kernel
theorem d_Text_readWord_24 : decode b_Text_readWord 24 = .ok (.aload_n 0, 1) := by decide +kernel
theorem d_Text_readWord_25 : decode b_Text_readWord 25 = .ok (.getfield 11, 3) := by decide +kernel
theorem d_Text_readWord_28 : decode b_Text_readWord 28 = .ok (.aload_n 0, 1) := by decide +kernel
theorem d_Text_readWord_29 : decode b_Text_readWord 29 = .ok (.getfield 15, 3) := by decide +kernel
theorem d_Text_readWord_32 : decode b_Text_readWord 32 = .ok (.iaload, 1) := by decide +kernel
theorem d_Text_readWord_33 : decode b_Text_readWord 33 = .ok (.bipush 32, 2) := by decide +kernel
theorem d_Text_readWord_35 : decode b_Text_readWord 35 = .ok (.if_icmp .le 37, 3) := by decide +kernel
theorem d_Text_readWord_91 : decode b_Text_readWord 91 = .ok (.aload_n 0, 1) := by decide +kernel
theorem d_Text_readWord_92 : decode b_Text_readWord 92 = .ok (.dup, 1) := by decide +kernel
theorem d_Text_readWord_93 : decode b_Text_readWord 93 = .ok (.getfield 15, 3) := by decide +kernel
theorem d_Text_readWord_96 : decode b_Text_readWord 96 = .ok (.iconst 1, 1) := by decide +kernel
theorem d_Text_readWord_97 : decode b_Text_readWord 97 = .ok (.iadd, 1) := by decide +kernel
theorem d_Text_readWord_98 : decode b_Text_readWord 98 = .ok (.putfield 15, 3) := by decide +kernel
theorem d_Text_readWord_38 : decode b_Text_readWord 38 = .ok (.aload_n 0, 1) := by decide +kernel
theorem d_Text_readWord_39 : decode b_Text_readWord 39 = .ok (.getfield 11, 3) := by decide +kernel
theorem d_Text_readWord_42 : decode b_Text_readWord 42 = .ok (.aload_n 0, 1) := by decide +kernel
theorem d_Text_readWord_43 : decode b_Text_readWord 43 = .ok (.getfield 15, 3) := by decide +kernel
theorem d_Text_readWord_46 : decode b_Text_readWord 46 = .ok (.aload_n 0, 1) := by decide +kernel
theorem d_Text_readWord_47 : decode b_Text_readWord 47 = .ok (.getfield 11, 3) := by decide +kernel
theorem d_Text_readWord_50 : decode b_Text_readWord 50 = .ok (.aload_n 0, 1) := by decide +kernel
theorem d_Text_readWord_51 : decode b_Text_readWord 51 = .ok (.getfield 15, 3) := by decide +kernel
theorem d_Text_readWord_54 : decode b_Text_readWord 54 = .ok (.iaload, 1) := by decide +kernel
theorem d_Text_readWord_55 : decode b_Text_readWord 55 = .ok (.invokestatic 45, 3) := by decide +kernel
theorem d_Text_readWord_58 : decode b_Text_readWord 58 = .ok (.iastore, 1) := by decide +kernel
theorem d_Text_readWord_59 : decode b_Text_readWord 59 = .ok (.aload_n 0, 1) := by decide +kernel
theorem d_Text_readWord_60 : decode b_Text_readWord 60 = .ok (.dup, 1) := by decide +kernel
theorem d_Text_readWord_61 : decode b_Text_readWord 61 = .ok (.getfield 15, 3) := by decide +kernel
theorem d_Text_readWord_64 : decode b_Text_readWord 64 = .ok (.iconst 1, 1) := by decide +kernel
theorem d_Text_readWord_65 : decode b_Text_readWord 65 = .ok (.iadd, 1) := by decide +kernel
theorem d_Text_readWord_66 : decode b_Text_readWord 66 = .ok (.putfield 15, 3) := by decide +kernel
theorem d_Text_readWord_69 : decode b_Text_readWord 69 = .ok (.goto (-56), 3) := by decide +kernel
theorem d_Text_name_0 : decode b_Text_name 0 = .ok (.lconst 0, 1) := by decide +kernel
theorem d_Text_name_1 : decode b_Text_name 1 = .ok (.lstore_n 1, 1) := by decide +kernel
theorem d_Text_name_2 : decode b_Text_name 2 = .ok (.aload_n 0, 1) := by decide +kernel
theorem d_Text_name_3 : decode b_Text_name 3 = .ok (.getfield 25, 3) := by decide +kernel
theorem d_Text_name_6 : decode b_Text_name 6 = .ok (.aload_n 0, 1) := by decide +kernel
theorem d_Text_name_7 : decode b_Text_name 7 = .ok (.getfield 22, 3) := by decide +kernel
theorem d_Text_name_10 : decode b_Text_name 10 = .ok (.isub, 1) := by decide +kernel
theorem d_Text_name_11 : decode b_Text_name 11 = .ok (.bipush 8, 2) := by decide +kernel
theorem d_Text_name_13 : decode b_Text_name 13 = .ok (.if_icmp .le 5, 3) := by decide +kernel
theorem d_Text_name_18 : decode b_Text_name 18 = .ok (.aload_n 0, 1) := by decide +kernel
theorem d_Text_name_19 : decode b_Text_name 19 = .ok (.getfield 22, 3) := by decide +kernel
theorem d_Text_name_22 : decode b_Text_name 22 = .ok (.istore_n 3, 1) := by decide +kernel
theorem d_Text_name_23 : decode b_Text_name 23 = .ok (.iload_n 3, 1) := by decide +kernel
theorem d_Text_name_24 : decode b_Text_name 24 = .ok (.aload_n 0, 1) := by decide +kernel
theorem d_Text_name_25 : decode b_Text_name 25 = .ok (.getfield 25, 3) := by decide +kernel
theorem d_Text_name_28 : decode b_Text_name 28 = .ok (.if_icmp .ge 22, 3) := by decide +kernel
theorem d_Text_name_50 : decode b_Text_name 50 = .ok (.lload_n 1, 1) := by decide +kernel
theorem d_Text_name_51 : decode b_Text_name 51 = .ok (.lreturn, 1) := by decide +kernel
theorem d_Text_name_31 : decode b_Text_name 31 = .ok (.lload_n 1, 1) := by decide +kernel
theorem d_Text_name_32 : decode b_Text_name 32 = .ok (.bipush 8, 2) := by decide +kernel
theorem d_Text_name_34 : decode b_Text_name 34 = .ok (.lshl, 1) := by decide +kernel
theorem d_Text_name_35 : decode b_Text_name 35 = .ok (.aload_n 0, 1) := by decide +kernel
theorem d_Text_name_36 : decode b_Text_name 36 = .ok (.getfield 11, 3) := by decide +kernel
theorem d_Text_name_39 : decode b_Text_name 39 = .ok (.iload_n 3, 1) := by decide +kernel
theorem d_Text_name_40 : decode b_Text_name 40 = .ok (.iaload, 1) := by decide +kernel
theorem d_Text_name_41 : decode b_Text_name 41 = .ok (.i2l, 1) := by decide +kernel
theorem d_Text_name_42 : decode b_Text_name 42 = .ok (.lor, 1) := by decide +kernel
theorem d_Text_name_43 : decode b_Text_name 43 = .ok (.lstore_n 1, 1) := by decide +kernel
theorem d_Text_name_44 : decode b_Text_name 44 = .ok (.iinc 3 1, 3) := by decide +kernel
theorem d_Text_name_47 : decode b_Text_name 47 = .ok (.goto (-24), 3) := by decide +kernel
theorem d_Text_name_16 : decode b_Text_name 16 = .ok (.lload_n 1, 1) := by decide +kernel
theorem d_Text_name_17 : decode b_Text_name 17 = .ok (.lreturn, 1) := by decide +kernel
theorem d_Text_digitsBegin_0 : decode b_Text_digitsBegin 0 = .ok (.aload_n 0, 1) := by decide +kernel
theorem d_Text_digitsBegin_1 : decode b_Text_digitsBegin 1 = .ok (.getfield 22, 3) := by decide +kernel
theorem d_Text_digitsBegin_4 : decode b_Text_digitsBegin 4 = .ok (.aload_n 0, 1) := by decide +kernel
theorem d_Text_digitsBegin_5 : decode b_Text_digitsBegin 5 = .ok (.getfield 25, 3) := by decide +kernel
theorem d_Text_digitsBegin_8 : decode b_Text_digitsBegin 8 = .ok (.if_icmp .ge 21, 3) := by decide +kernel
theorem d_Text_digitsBegin_29 : decode b_Text_digitsBegin 29 = .ok (.iconst 0, 1) := by decide +kernel
theorem d_Text_digitsBegin_30 : decode b_Text_digitsBegin 30 = .ok (.istore_n 1, 1) := by decide +kernel
theorem d_Text_digitsBegin_31 : decode b_Text_digitsBegin 31 = .ok (.iload_n 1, 1) := by decide +kernel
theorem d_Text_digitsBegin_32 : decode b_Text_digitsBegin 32 = .ok (.ifCond .eq 12, 3) := by decide +kernel
theorem d_Text_digitsBegin_44 : decode b_Text_digitsBegin 44 = .ok (.aload_n 0, 1) := by decide +kernel
theorem d_Text_digitsBegin_45 : decode b_Text_digitsBegin 45 = .ok (.getfield 22, 3) := by decide +kernel
theorem d_Text_digitsBegin_48 : decode b_Text_digitsBegin 48 = .ok (.ireturn, 1) := by decide +kernel
theorem d_Text_digitsBegin_11 : decode b_Text_digitsBegin 11 = .ok (.aload_n 0, 1) := by decide +kernel
theorem d_Text_digitsBegin_12 : decode b_Text_digitsBegin 12 = .ok (.getfield 11, 3) := by decide +kernel
theorem d_Text_digitsBegin_15 : decode b_Text_digitsBegin 15 = .ok (.aload_n 0, 1) := by decide +kernel
theorem d_Text_digitsBegin_16 : decode b_Text_digitsBegin 16 = .ok (.getfield 22, 3) := by decide +kernel
theorem d_Text_digitsBegin_19 : decode b_Text_digitsBegin 19 = .ok (.iaload, 1) := by decide +kernel
theorem d_Text_digitsBegin_20 : decode b_Text_digitsBegin 20 = .ok (.bipush 45, 2) := by decide +kernel
theorem d_Text_digitsBegin_22 : decode b_Text_digitsBegin 22 = .ok (.if_icmp .ne 7, 3) := by decide +kernel
theorem d_Text_digitsBegin_25 : decode b_Text_digitsBegin 25 = .ok (.iconst 1, 1) := by decide +kernel
theorem d_Text_digitsBegin_26 : decode b_Text_digitsBegin 26 = .ok (.goto 4, 3) := by decide +kernel
theorem d_Text_digitsBegin_35 : decode b_Text_digitsBegin 35 = .ok (.aload_n 0, 1) := by decide +kernel
theorem d_Text_digitsBegin_36 : decode b_Text_digitsBegin 36 = .ok (.getfield 22, 3) := by decide +kernel
theorem d_Text_digitsBegin_39 : decode b_Text_digitsBegin 39 = .ok (.iconst 1, 1) := by decide +kernel
theorem d_Text_digitsBegin_40 : decode b_Text_digitsBegin 40 = .ok (.iadd, 1) := by decide +kernel
theorem d_Text_digitsBegin_41 : decode b_Text_digitsBegin 41 = .ok (.goto 7, 3) := by decide +kernel
theorem d_Text_digit_0 : decode b_Text_digit 0 = .ok (.iload_n 0, 1) := by decide +kernel
theorem d_Text_digit_1 : decode b_Text_digit 1 = .ok (.bipush 48, 2) := by decide +kernel
theorem d_Text_digit_3 : decode b_Text_digit 3 = .ok (.if_icmp .lt 14, 3) := by decide +kernel
theorem d_Text_digit_17 : decode b_Text_digit 17 = .ok (.iload_n 0, 1) := by decide +kernel
theorem d_Text_digit_18 : decode b_Text_digit 18 = .ok (.bipush 97, 2) := by decide +kernel
theorem d_Text_digit_20 : decode b_Text_digit 20 = .ok (.if_icmp .lt 19, 3) := by decide +kernel
theorem d_Text_digit_39 : decode b_Text_digit 39 = .ok (.iconst (-1), 1) := by decide +kernel
theorem d_Text_digit_40 : decode b_Text_digit 40 = .ok (.ireturn, 1) := by decide +kernel
theorem d_Text_digit_23 : decode b_Text_digit 23 = .ok (.iload_n 0, 1) := by decide +kernel
theorem d_Text_digit_24 : decode b_Text_digit 24 = .ok (.bipush 122, 2) := by decide +kernel
theorem d_Text_digit_26 : decode b_Text_digit 26 = .ok (.if_icmp .gt 13, 3) := by decide +kernel
theorem d_Text_digit_29 : decode b_Text_digit 29 = .ok (.iload_n 0, 1) := by decide +kernel
theorem d_Text_digit_30 : decode b_Text_digit 30 = .ok (.bipush 97, 2) := by decide +kernel
theorem d_Text_digit_32 : decode b_Text_digit 32 = .ok (.isub, 1) := by decide +kernel
theorem d_Text_digit_33 : decode b_Text_digit 33 = .ok (.bipush 10, 2) := by decide +kernel
theorem d_Text_digit_35 : decode b_Text_digit 35 = .ok (.iadd, 1) := by decide +kernel
theorem d_Text_digit_36 : decode b_Text_digit 36 = .ok (.goto 4, 3) := by decide +kernel
theorem d_Text_digit_6 : decode b_Text_digit 6 = .ok (.iload_n 0, 1) := by decide +kernel
theorem d_Text_digit_7 : decode b_Text_digit 7 = .ok (.bipush 57, 2) := by decide +kernel
theorem d_Text_digit_9 : decode b_Text_digit 9 = .ok (.if_icmp .gt 8, 3) := by decide +kernel
theorem d_Text_digit_12 : decode b_Text_digit 12 = .ok (.iload_n 0, 1) := by decide +kernel
theorem d_Text_digit_13 : decode b_Text_digit 13 = .ok (.bipush 48, 2) := by decide +kernel
theorem d_Text_digit_15 : decode b_Text_digit 15 = .ok (.isub, 1) := by decide +kernel
theorem d_Text_digit_16 : decode b_Text_digit 16 = .ok (.ireturn, 1) := by decide +kernel
/-- the picture of ColonMachine$Text.size -/
def F_Text_size (tb : Int32) (te : Int32) : Int32 := te - tb
theorem F_Text_size_e (tb : Int32) (te : Int32) : F_Text_size tb te = te - tb := rfl
set_option maxHeartbeats 4000000 in
set_option maxRecDepth 100000 in
theorem c_Text_size (l : Launch) (D : va_G) (cI cJ cZ cW cT : ClassId) (sz : Nat) (h : Nat) (a : Nat) (tb : Int32) (te : Int32) (tw : Int32) (tx : Int32) (hi : TextOk tb te tw tx) : Met l y_Text_size w_Text_size ({ frames := 0, cells := 0, slots := 0, locals := 0 }) (va_Pc [.ref h] (zP D classes (TY cI cJ cZ cW cT) [(h, .inr (7, [.ref a, .int tb, .int te, .int tw, .int tx]))] sz)) (va_Qi (fun (r : Int32) (_ : Unit) => r = F_Text_size tb te ∧ ((r.toInt = te.toInt - tb.toInt))) (fun _ => zB D classes (TY cI cJ cZ cW cT) (va_A [(h, .inr (7, [.ref a, .int tb, .int te, .int tw, .int tx]))] sz) [(h, .inr (7, [.ref a, .int tb, .int te, .int tw, .int tx]))]) (va_A [(h, .inr (7, [.ref a, .int tb, .int te, .int tw, .int tx]))] sz)) 0 0 (va_A [(h, .inr (7, [.ref a, .int tb, .int te, .int tw, .int tx]))] sz) := by
  refine Met.ofW (cc := b_Text_size) (maxL := 1) (ret := (some .int)) (by decide) rfl ?_
  intro p e s m args below meth c s₁ B hml hv
  obtain ⟨rfl, hsz, hP, hK, hD0, hE⟩ := hv
  have hx := B.exec
  have hb := B.bytes
  have hr := B.returns
  have hts := atoms_spec (ws := w_Text_size) B.pre
  have hT : ∀ w ∈ TB, w.before _ s = true := fun w h => hts w (List.mem_cons_of_mem _ h)
  have hown : s.vm.findClass "ColonMachine$Text" = some m.cls := findClass_of_methodNamed B.named
  have hlocks := B.notSynchronized
  subst hsz
  have hD := hD0.self (sz := s.heap.size)
  generalize hAe : va_A [(h, .inr (7, [.ref a, .int tb, .int te, .int tw, .int tx]))] s.heap.size = A at hD hE ⊢
  have hA : ∀ q : Nat, s.heap.size ≤ q → A q := fun q h => by rw [← hAe]; exact Or.inr h
  have hS : va_S A s.heap s.heap [] := va_S.rf
  have hl := lv_entry [.ref h] (n := 1) (Nat.le_of_ble_eq_true rfl)
  rw [lg_entry_eq]
  generalize (lg_sl [.ref h] ++ List.replicate (1 - (lg_sl [.ref h]).length) Slot.unset).toArray = ls at hl ⊢
  have hl : lv_has ls 1 [(0, .ref h)] := hl
  have hF := F_Text_size_e tb te
  refine lv_aload_n hx hb d_Text_size_0 rfl (lv_at hl 0 rfl) ?_
  refine va_get (D := D) (v := .int te) (C := "ColonMachine$Text") (T := T_Text) (N := 5) hx hb hT i_Text hown hK hP 0 rfl rfl 2 (by decide) (hT _ fl_Text_19) (fun _ h9 => h9) rfl d_Text_size_1 ?_
  refine lv_aload_n hx hb d_Text_size_4 rfl (lv_at hl 0 rfl) ?_
  refine va_get (D := D) (v := .int tb) (C := "ColonMachine$Text") (T := T_Text) (N := 5) hx hb hT i_Text hown hK hP 0 rfl rfl 1 (by decide) (hT _ fl_Text_15) (fun _ h9 => h9) rfl d_Text_size_5 ?_
  refine lv_isub hx hb d_Text_size_8 ?_
  exact W.iret (v := te - tb) hx hb hr (fun t ht hW => ⟨⟨_, (), rfl, ⟨hF.symm, (by have := ti_lo te; have := ti_hi te; have := ti_lo tb; have := ti_hi tb; have := ti_lo tw; have := ti_hi tw; have := ti_lo tx; have := ti_hi tx; (try simp only [true_or, or_true, true_and, and_true, z_tn, CellsOk, CallsOk, TextOk, MemOk, OutOk, Int32.lt_iff_toInt_lt, Int32.le_iff_toInt_le, ← Int32.toInt_inj, Int32.toInt_add, Int32.toInt_sub, Int32.toInt_mul, Int32.toInt_neg, zbm, zbm'] at hi ⊢) <;> omega)⟩, ⟨by rw [ht]; exact hP, va_K.moved hW.alike hK, hD⟩⟩, hS.F ht⟩) hS.2.2 d_Text_size_9
/-- the picture of ColonMachine$Text.hasRoomFor -/
def F_Text_hasRoomFor (tb : Int32) (te : Int32) (x1 : Int32) : Int32 := bd (F_Text_size tb te) (fun q1 => if (500 - q1) < x1 then 0 else 1)
theorem F_Text_hasRoomFor_e (tb : Int32) (te : Int32) (x1 : Int32) : F_Text_hasRoomFor tb te x1 = bd (F_Text_size tb te) (fun q1 => if (500 - q1) < x1 then 0 else 1) := rfl
set_option maxHeartbeats 4000000 in
set_option maxRecDepth 100000 in
theorem c_Text_hasRoomFor (l : Launch) (D : va_G) (cI cJ cZ cW cT : ClassId) (sz : Nat) (h : Nat) (a : Nat) (tb : Int32) (te : Int32) (tw : Int32) (tx : Int32) (x1 : Int32) (hi : TextOk tb te tw tx) : Met l y_Text_hasRoomFor w_Text_hasRoomFor ({ frames := 1, cells := 0, slots := 0, locals := 20 }) (va_Pc [.ref h, .int x1] (zP D classes (TY cI cJ cZ cW cT) [(h, .inr (7, [.ref a, .int tb, .int te, .int tw, .int tx]))] sz)) (va_Qi (fun (r : Int32) (_ : Unit) => r = F_Text_hasRoomFor tb te x1 ∧ ((r.toInt = 1 ∨ 500 - (te.toInt - tb.toInt) < x1.toInt) ∧ (r = 0 ∨ r = 1))) (fun _ => zB D classes (TY cI cJ cZ cW cT) (va_A [(h, .inr (7, [.ref a, .int tb, .int te, .int tw, .int tx]))] sz) [(h, .inr (7, [.ref a, .int tb, .int te, .int tw, .int tx]))]) (va_A [(h, .inr (7, [.ref a, .int tb, .int te, .int tw, .int tx]))] sz)) 0 0 (va_A [(h, .inr (7, [.ref a, .int tb, .int te, .int tw, .int tx]))] sz) := by
  refine Met.ofW (cc := b_Text_hasRoomFor) (maxL := 2) (ret := (some .boolean)) (by decide) rfl ?_
  intro p e s m args below meth c s₁ B hml hv
  obtain ⟨rfl, hsz, hP, hK, hD0, hE⟩ := hv
  have hx := B.exec
  have hb := B.bytes
  have hr := B.returns
  have hts := atoms_spec (ws := w_Text_hasRoomFor) B.pre
  have hT : ∀ w ∈ TB, w.before _ s = true := fun w h => hts w (List.mem_cons_of_mem _ h)
  have hown : s.vm.findClass "ColonMachine$Text" = some m.cls := findClass_of_methodNamed B.named
  have hlocks := B.notSynchronized
  subst hsz
  have hD := hD0.self (sz := s.heap.size)
  generalize hAe : va_A [(h, .inr (7, [.ref a, .int tb, .int te, .int tw, .int tx]))] s.heap.size = A at hD hE ⊢
  have hA : ∀ q : Nat, s.heap.size ≤ q → A q := fun q h => by rw [← hAe]; exact Or.inr h
  have hS : va_S A s.heap s.heap [] := va_S.rf
  have hl := lv_entry [.ref h, .int x1] (n := 2) (Nat.le_of_ble_eq_true rfl)
  rw [lg_entry_eq]
  generalize (lg_sl [.ref h, .int x1] ++ List.replicate (2 - (lg_sl [.ref h, .int x1]).length) Slot.unset).toArray = ls at hl ⊢
  have hl : lv_has ls 2 [(0, .ref h), (1, .int x1)] := hl
  have hF := F_Text_hasRoomFor_e tb te x1
  refine lv_iload_n hx hb d_Text_hasRoomFor_0 rfl (lv_at hl 1 rfl) ?_
  refine lv_sipush (v := 500) hx hb d_Text_hasRoomFor_1 (by decide) ?_
  refine lv_aload_n hx hb d_Text_hasRoomFor_4 rfl (lv_at hl 0 rfl) ?_
  refine kN_pi (wr := []) (zV (wc := [(h, .inr (7, [.ref a, .int tb, .int te, .int tw, .int tx]))]) (As := []) (rest := [.int 500, .int x1]) (st0 := [.ref h, .int 500, .int x1]) ⟨hx, hb, hml, hown, hT⟩ (c_Text_size l D cI cJ cZ cW cT s.heap.size h a tb te tw tx hi) (cwV 0 hT (tbV ml_Text_28 im_Text_size se_Text_size in_Text co_Text_size) rfl rfl rfl v_Text_size ⟨Nat.le_of_ble_eq_true rfl, Nat.le_of_ble_eq_true rfl⟩) hK hE hP hD hS hA [0] rfl rfl 0 rfl rfl rfl hl.1 rfl (Nat.le_of_ble_eq_true rfl) d_Text_hasRoomFor_5 ⟨Nat.le_of_ble_eq_true rfl, Nat.le_of_ble_eq_true rfl⟩) hP hD hS hA [0] [] rfl rfl rfl (by decide) [0] rfl rfl (fun q1 H locs e1 k1 hP hD hS => ?_)
  have hP : va_P D classes [(h, .inr (7, [.ref a, .int tb, .int te, .int tw, .int tx]))] H := hP
  have hD : va_D A [(h, .inr (7, [.ref a, .int tb, .int te, .int tw, .int tx]))] := hD
  have hF := hF.trans (bd_e e1)
  refine lv_isub hx hb d_Text_hasRoomFor_8 ?_
  refine lv_icmp_gt (tgt := 16) hx hb d_Text_hasRoomFor_9 (by decide) (fun c2 => ?_) (fun c2 => ?_)
  · have hF := hF.trans (if_pos c2)
    refine lv_iconst (v := 0) hx hb d_Text_hasRoomFor_16 (by decide) ?_
    exact W.zret (v := 0) hx hb hr rfl (fun t ht hW => ⟨⟨_, (), rfl, ⟨hF.symm, ⟨(by have := ti_lo tb; have := ti_hi tb; have := ti_lo te; have := ti_hi te; have := ti_lo tw; have := ti_hi tw; have := ti_lo tx; have := ti_hi tx; have := ti_lo q1; have := ti_hi q1; have := ti_lo x1; have := ti_hi x1; have t0 : Int32.toInt 0 = 0 := rfl; have t1 : Int32.toInt 1 = 1 := rfl; have t500 : Int32.toInt 500 = 500 := rfl; (try simp only [true_or, or_true, true_and, and_true, z_tn, CellsOk, CallsOk, TextOk, MemOk, OutOk, Int32.lt_iff_toInt_lt, Int32.le_iff_toInt_le, ← Int32.toInt_inj, Int32.toInt_add, Int32.toInt_sub, Int32.toInt_mul, Int32.toInt_neg, zbm, zbm', t0, t1, t500] at c2 hi k1 ⊢) <;> omega), (Or.inl rfl)⟩⟩, ⟨by rw [ht]; exact hP, va_K.moved hW.alike hK, hD⟩⟩, hS.F ht⟩) hS.2.2 d_Text_hasRoomFor_17
  · have hF := hF.trans (if_neg c2)
    refine lv_iconst (v := 1) hx hb d_Text_hasRoomFor_12 (by decide) ?_
    refine lv_goto (tgt := 17) hx hb d_Text_hasRoomFor_13 (by decide) ?_
    exact W.zret (v := 1) hx hb hr rfl (fun t ht hW => ⟨⟨_, (), rfl, ⟨hF.symm, ⟨(by have := ti_lo tb; have := ti_hi tb; have := ti_lo te; have := ti_hi te; have := ti_lo tw; have := ti_hi tw; have := ti_lo tx; have := ti_hi tx; have := ti_lo q1; have := ti_hi q1; have := ti_lo x1; have := ti_hi x1; have t1 : Int32.toInt 1 = 1 := rfl; have t500 : Int32.toInt 500 = 500 := rfl; (try simp only [true_or, or_true, true_and, and_true, z_tn, CellsOk, CallsOk, TextOk, MemOk, OutOk, Int32.lt_iff_toInt_lt, Int32.le_iff_toInt_le, ← Int32.toInt_inj, Int32.toInt_add, Int32.toInt_sub, Int32.toInt_mul, Int32.toInt_neg, zbm, zbm', t1, t500] at c2 hi k1 ⊢) <;> omega), (Or.inr rfl)⟩⟩, ⟨by rw [ht]; exact hP, va_K.moved hW.alike hK, hD⟩⟩, hS.F ht⟩) hS.2.2 d_Text_hasRoomFor_17
/-- the picture of ColonMachine$Text.empty -/
def F_Text_empty  : Int32 × Int32 × Int32 × Int32 := (0, 0, 0, 0)
theorem F_Text_empty_e  : F_Text_empty = (0, 0, 0, 0) := rfl
set_option maxHeartbeats 4000000 in
set_option maxRecDepth 100000 in
theorem c_Text_empty (l : Launch) (D : va_G) (cI cJ cZ cW cT : ClassId) (sz : Nat) (h : Nat) (a : Nat) (tb : Int32) (te : Int32) (tw : Int32) (tx : Int32) (hi : TextOk tb te tw tx) : Met l y_Text_empty w_Text_empty ({ frames := 0, cells := 0, slots := 0, locals := 0 }) (va_Pc [.ref h] (zP D classes (TY cI cJ cZ cW cT) [(h, .inr (7, [.ref a, .int tb, .int te, .int tw, .int tx]))] sz)) (va_Qv (fun u : Int32 × Int32 × Int32 × Int32 => u = F_Text_empty ∧ ((TextOk u.1 u.2.1 u.2.2.1 u.2.2.2) ∧ (u.1.toInt = 0) ∧ (u.2.1.toInt = 0) ∧ (u.2.2.1.toInt = 0) ∧ (u.2.2.2.toInt = 0))) (fun u => zB D classes (TY cI cJ cZ cW cT) (va_A [(h, .inr (7, [.ref a, .int tb, .int te, .int tw, .int tx]))] sz) [(h, .inr (7, [.ref a, .int u.1, .int u.2.1, .int u.2.2.1, .int u.2.2.2]))]) (va_A [(h, .inr (7, [.ref a, .int tb, .int te, .int tw, .int tx]))] sz)) 0 0 (va_A [(h, .inr (7, [.ref a, .int tb, .int te, .int tw, .int tx]))] sz) := by
  refine Met.ofW (cc := b_Text_empty) (maxL := 1) (ret := none) (by decide) rfl ?_
  intro p e s m args below meth c s₁ B hml hv
  obtain ⟨rfl, hsz, hP, hK, hD0, hE⟩ := hv
  have hx := B.exec
  have hb := B.bytes
  have hr := B.returns
  have hts := atoms_spec (ws := w_Text_empty) B.pre
  have hT : ∀ w ∈ TB, w.before _ s = true := fun w h => hts w (List.mem_cons_of_mem _ h)
  have hown : s.vm.findClass "ColonMachine$Text" = some m.cls := findClass_of_methodNamed B.named
  have hlocks := B.notSynchronized
  subst hsz
  have hD := hD0.self (sz := s.heap.size)
  generalize hAe : va_A [(h, .inr (7, [.ref a, .int tb, .int te, .int tw, .int tx]))] s.heap.size = A at hD hE ⊢
  have hA : ∀ q : Nat, s.heap.size ≤ q → A q := fun q h => by rw [← hAe]; exact Or.inr h
  have hS : va_S A s.heap s.heap [] := va_S.rf
  have hl := lv_entry [.ref h] (n := 1) (Nat.le_of_ble_eq_true rfl)
  rw [lg_entry_eq]
  generalize (lg_sl [.ref h] ++ List.replicate (1 - (lg_sl [.ref h]).length) Slot.unset).toArray = ls at hl ⊢
  have hl : lv_has ls 1 [(0, .ref h)] := hl
  have hF := F_Text_empty_e 
  refine lv_aload_n hx hb d_Text_empty_0 rfl (lv_at hl 0 rfl) ?_
  refine lv_iconst (v := 0) hx hb d_Text_empty_1 (by decide) ?_
  refine va_put (D := D) (v := .int 0) (ty := .int) (C := "ColonMachine$Text") (T := T_Text) (N := 5) hx hb hT i_Text t_Text tk_Text n_Text hown hK hP hD hS 0 rfl rfl 1 (by decide) (hT _ fl_Text_15) (fun _ h9 => h9) rfl (by decide +kernel) rfl rfl (Nat.le_of_ble_eq_true rfl) d_Text_empty_2 (fun H locs hP hD hS => ?_)
  have hP : va_P D classes [(h, .inr (7, [.ref a, .int 0, .int te, .int tw, .int tx]))] H := hP
  have hD : va_D A [(h, .inr (7, [.ref a, .int 0, .int te, .int tw, .int tx]))] := hD
  refine lv_aload_n hx hb d_Text_empty_5 rfl (lv_at hl 0 rfl) ?_
  refine lv_iconst (v := 0) hx hb d_Text_empty_6 (by decide) ?_
  refine va_put (D := D) (v := .int 0) (ty := .int) (C := "ColonMachine$Text") (T := T_Text) (N := 5) hx hb hT i_Text t_Text tk_Text n_Text hown hK hP hD hS 0 rfl rfl 2 (by decide) (hT _ fl_Text_19) (fun _ h9 => h9) rfl (by decide +kernel) rfl rfl (Nat.le_of_ble_eq_true rfl) d_Text_empty_7 (fun H locs hP hD hS => ?_)
  have hP : va_P D classes [(h, .inr (7, [.ref a, .int 0, .int 0, .int tw, .int tx]))] H := hP
  have hD : va_D A [(h, .inr (7, [.ref a, .int 0, .int 0, .int tw, .int tx]))] := hD
  refine lv_aload_n hx hb d_Text_empty_10 rfl (lv_at hl 0 rfl) ?_
  refine lv_iconst (v := 0) hx hb d_Text_empty_11 (by decide) ?_
  refine va_put (D := D) (v := .int 0) (ty := .int) (C := "ColonMachine$Text") (T := T_Text) (N := 5) hx hb hT i_Text t_Text tk_Text n_Text hown hK hP hD hS 0 rfl rfl 3 (by decide) (hT _ fl_Text_22) (fun _ h9 => h9) rfl (by decide +kernel) rfl rfl (Nat.le_of_ble_eq_true rfl) d_Text_empty_12 (fun H locs hP hD hS => ?_)
  have hP : va_P D classes [(h, .inr (7, [.ref a, .int 0, .int 0, .int 0, .int tx]))] H := hP
  have hD : va_D A [(h, .inr (7, [.ref a, .int 0, .int 0, .int 0, .int tx]))] := hD
  refine lv_aload_n hx hb d_Text_empty_15 rfl (lv_at hl 0 rfl) ?_
  refine lv_iconst (v := 0) hx hb d_Text_empty_16 (by decide) ?_
  refine va_put (D := D) (v := .int 0) (ty := .int) (C := "ColonMachine$Text") (T := T_Text) (N := 5) hx hb hT i_Text t_Text tk_Text n_Text hown hK hP hD hS 0 rfl rfl 4 (by decide) (hT _ fl_Text_25) (fun _ h9 => h9) rfl (by decide +kernel) rfl rfl (Nat.le_of_ble_eq_true rfl) d_Text_empty_17 (fun H locs hP hD hS => ?_)
  have hP : va_P D classes [(h, .inr (7, [.ref a, .int 0, .int 0, .int 0, .int 0]))] H := hP
  have hD : va_D A [(h, .inr (7, [.ref a, .int 0, .int 0, .int 0, .int 0]))] := hD
  exact W.vret hx hb hr (fun t ht hW => ⟨⟨_, rfl, ⟨hF.symm, ⟨(by have := ti_lo tb; have := ti_hi tb; have := ti_lo te; have := ti_hi te; have := ti_lo tw; have := ti_hi tw; have := ti_lo tx; have := ti_hi tx; have t0 : Int32.toInt 0 = 0 := rfl; (try simp only [true_or, or_true, true_and, and_true, z_tn, CellsOk, CallsOk, TextOk, MemOk, OutOk, Int32.lt_iff_toInt_lt, Int32.le_iff_toInt_le, ← Int32.toInt_inj, Int32.toInt_add, Int32.toInt_sub, Int32.toInt_mul, Int32.toInt_neg, zbm, zbm', t0] at hi ⊢) <;> omega), (by have := ti_lo tb; have := ti_hi tb; have := ti_lo te; have := ti_hi te; have := ti_lo tw; have := ti_hi tw; have := ti_lo tx; have := ti_hi tx; have t0 : Int32.toInt 0 = 0 := rfl; (try simp only [true_or, or_true, true_and, and_true, z_tn, CellsOk, CallsOk, TextOk, MemOk, OutOk, Int32.lt_iff_toInt_lt, Int32.le_iff_toInt_le, ← Int32.toInt_inj, Int32.toInt_add, Int32.toInt_sub, Int32.toInt_mul, Int32.toInt_neg, zbm, zbm', t0] at hi ⊢) <;> omega), (by have := ti_lo tb; have := ti_hi tb; have := ti_lo te; have := ti_hi te; have := ti_lo tw; have := ti_hi tw; have := ti_lo tx; have := ti_hi tx; have t0 : Int32.toInt 0 = 0 := rfl; (try simp only [true_or, or_true, true_and, and_true, z_tn, CellsOk, CallsOk, TextOk, MemOk, OutOk, Int32.lt_iff_toInt_lt, Int32.le_iff_toInt_le, ← Int32.toInt_inj, Int32.toInt_add, Int32.toInt_sub, Int32.toInt_mul, Int32.toInt_neg, zbm, zbm', t0] at hi ⊢) <;> omega), (by have := ti_lo tb; have := ti_hi tb; have := ti_lo te; have := ti_hi te; have := ti_lo tw; have := ti_hi tw; have := ti_lo tx; have := ti_hi tx; have t0 : Int32.toInt 0 = 0 := rfl; (try simp only [true_or, or_true, true_and, and_true, z_tn, CellsOk, CallsOk, TextOk, MemOk, OutOk, Int32.lt_iff_toInt_lt, Int32.le_iff_toInt_le, ← Int32.toInt_inj, Int32.toInt_add, Int32.toInt_sub, Int32.toInt_mul, Int32.toInt_neg, zbm, zbm', t0] at hi ⊢) <;> omega), (by have := ti_lo tb; have := ti_hi tb; have := ti_lo te; have := ti_hi te; have := ti_lo tw; have := ti_hi tw; have := ti_lo tx; have := ti_hi tx; have t0 : Int32.toInt 0 = 0 := rfl; (try simp only [true_or, or_true, true_and, and_true, z_tn, CellsOk, CallsOk, TextOk, MemOk, OutOk, Int32.lt_iff_toInt_lt, Int32.le_iff_toInt_le, ← Int32.toInt_inj, Int32.toInt_add, Int32.toInt_sub, Int32.toInt_mul, Int32.toInt_neg, zbm, zbm', t0] at hi ⊢) <;> omega)⟩⟩, ⟨by rw [ht]; exact hP, va_K.moved hW.alike hK, hD⟩⟩, hS.F ht⟩) hS.2.2 d_Text_empty_20
def F_Text_append_L37 (x1 : Int64) (x2 : Int32) (q2 : Int32 × Int32 × Int32 × Int32) : Nat → (Int32) → (Int32) → (Nat → Int32) → Int32 × Int32 × Int32 × Int32 × (Nat → Int32)
  | 0, _, _, _ => (0, 0, 0, 0, (fun _ => 0))
  | k37 + 1, v5, z0_2, z1_f => if x2 ≤ v5 then (q2.1, z0_2, q2.2.2.1, q2.2.2.2, z1_f) else (if 500 ≤ z0_2 then (q2.1, z0_2, q2.2.2.1, q2.2.2.2, z1_f) else (F_Text_append_L37 x1 x2 q2 k37 (v5 + 1) (z0_2 + 1) (upd z1_f z0_2.toNatClampNeg ((((x1.toUInt64 >>> ((8 * v5).toInt64.toUInt64 &&& Int64.toUInt64 63)).toInt64).toInt32) &&& 255))))
theorem F_Text_append_L37_s (x1 : Int64) (x2 : Int32) (q2 : Int32 × Int32 × Int32 × Int32) (k37 : Nat) (v5 : Int32) (z0_2 : Int32) (z1_f : Nat → Int32) : F_Text_append_L37 x1 x2 q2 (k37 + 1) v5 z0_2 z1_f = if x2 ≤ v5 then (q2.1, z0_2, q2.2.2.1, q2.2.2.2, z1_f) else (if 500 ≤ z0_2 then (q2.1, z0_2, q2.2.2.1, q2.2.2.2, z1_f) else (F_Text_append_L37 x1 x2 q2 k37 (v5 + 1) (z0_2 + 1) (upd z1_f z0_2.toNatClampNeg ((((x1.toUInt64 >>> ((8 * v5).toInt64.toUInt64 &&& Int64.toUInt64 63)).toInt64).toInt32) &&& 255)))) := rfl
/-- the picture of ColonMachine$Text.append -/
def F_Text_append (tb : Int32) (te : Int32) (tf : Nat → Int32) (x1 : Int64) (x2 : Int32) : Int32 × Int32 × Int32 × Int32 × (Nat → Int32) := bd (F_Text_size tb te) (fun q1 => bd (F_Text_empty) (fun q2 => F_Text_append_L37 x1 x2 q2 (((x2.toInt - (0 : Int32).toInt).toNat) + 1) 0 q1 (va_cpy tf tf tb.toNatClampNeg (0 : Int32).toNatClampNeg q1.toNatClampNeg)))
theorem F_Text_append_e (tb : Int32) (te : Int32) (tf : Nat → Int32) (x1 : Int64) (x2 : Int32) : F_Text_append tb te tf x1 x2 = bd (F_Text_size tb te) (fun q1 => bd (F_Text_empty) (fun q2 => F_Text_append_L37 x1 x2 q2 (((x2.toInt - (0 : Int32).toInt).toNat) + 1) 0 q1 (va_cpy tf tf tb.toNatClampNeg (0 : Int32).toNatClampNeg q1.toNatClampNeg))) := rfl
set_option maxHeartbeats 4000000 in
set_option maxRecDepth 100000 in
theorem c_Text_append (l : Launch) (D : va_G) (cI cJ cZ cW cT : ClassId) (sz : Nat) (h : Nat) (a : Nat) (tb : Int32) (te : Int32) (tw : Int32) (tx : Int32) (tf : Nat → Int32) (x1 : Int64) (x2 : Int32) (hi : TextOk tb te tw tx) : Met l y_Text_append w_Text_append ({ frames := 1, cells := 0, slots := 0, locals := 26 }) (va_Pc [.ref h, .long x1, .int x2] (zP D classes (TY cI cJ cZ cW cT) [(h, .inr (7, [.ref a, .int tb, .int te, .int tw, .int tx])), (a, .inl (cI, 500, .inl tf))] sz)) (va_Qv (fun u : Int32 × Int32 × Int32 × Int32 × (Nat → Int32) => u = F_Text_append tb te tf x1 x2 ∧ ((TextOk u.1 u.2.1 u.2.2.1 u.2.2.2.1))) (fun u => zB D classes (TY cI cJ cZ cW cT) (va_A [(h, .inr (7, [.ref a, .int tb, .int te, .int tw, .int tx])), (a, .inl (cI, 500, .inl tf))] sz) [(h, .inr (7, [.ref a, .int u.1, .int u.2.1, .int u.2.2.1, .int u.2.2.2.1])), (a, .inl (cI, 500, .inl u.2.2.2.2))]) (va_A [(h, .inr (7, [.ref a, .int tb, .int te, .int tw, .int tx])), (a, .inl (cI, 500, .inl tf))] sz)) 0 0 (va_A [(h, .inr (7, [.ref a, .int tb, .int te, .int tw, .int tx])), (a, .inl (cI, 500, .inl tf))] sz) := by
  refine Met.ofW (cc := b_Text_append) (maxL := 6) (ret := none) (by decide) rfl ?_
  intro p e s m args below meth c s₁ B hml hv
  obtain ⟨rfl, hsz, hP, hK, hD0, hE⟩ := hv
  have hx := B.exec
  have hb := B.bytes
  have hr := B.returns
  have hts := atoms_spec (ws := w_Text_append) B.pre
  have hT : ∀ w ∈ TB, w.before _ s = true := fun w h => hts w (List.mem_cons_of_mem _ h)
  have hown : s.vm.findClass "ColonMachine$Text" = some m.cls := findClass_of_methodNamed B.named
  have hlocks := B.notSynchronized
  subst hsz
  have hD := hD0.self (sz := s.heap.size)
  generalize hAe : va_A [(h, .inr (7, [.ref a, .int tb, .int te, .int tw, .int tx])), (a, .inl (cI, 500, .inl tf))] s.heap.size = A at hD hE ⊢
  have hA : ∀ q : Nat, s.heap.size ≤ q → A q := fun q h => by rw [← hAe]; exact Or.inr h
  have hS : va_S A s.heap s.heap [] := va_S.rf
  have hl := lv_entry [.ref h, .long x1, .int x2] (n := 6) (Nat.le_of_ble_eq_true rfl)
  rw [lg_entry_eq]
  generalize (lg_sl [.ref h, .long x1, .int x2] ++ List.replicate (6 - (lg_sl [.ref h, .long x1, .int x2]).length) Slot.unset).toArray = ls at hl ⊢
  have hl : lv_has ls 6 [(0, .ref h), (1, .long x1), (3, .int x2)] := hl
  have hF := F_Text_append_e tb te tf x1 x2
  refine lv_aload_n hx hb d_Text_append_0 rfl (lv_at hl 0 rfl) ?_
  refine kN_pi (wr := [(a, .inl (cI, 500, .inl tf))]) (zV (wc := [(h, .inr (7, [.ref a, .int tb, .int te, .int tw, .int tx]))]) (As := []) (rest := []) (st0 := [.ref h]) ⟨hx, hb, hml, hown, hT⟩ (c_Text_size l D cI cJ cZ cW cT s.heap.size h a tb te tw tx hi) (cwV 0 hT (tbV ml_Text_28 im_Text_size se_Text_size in_Text co_Text_size) rfl rfl rfl v_Text_size ⟨Nat.le_of_ble_eq_true rfl, Nat.le_of_ble_eq_true rfl⟩) hK hE hP hD hS hA [0] rfl rfl 0 rfl rfl rfl hl.1 rfl (Nat.le_of_ble_eq_true rfl) d_Text_append_1 ⟨Nat.le_of_ble_eq_true rfl, Nat.le_of_ble_eq_true rfl⟩) hP hD hS hA [0] [1] rfl rfl rfl (by decide) [1, 0] rfl rfl (fun q1 H locs e1 k1 hP hD hS => ?_)
  have hP : va_P D classes [(h, .inr (7, [.ref a, .int tb, .int te, .int tw, .int tx])), (a, .inl (cI, 500, .inl tf))] H := hP
  have hD : va_D A [(h, .inr (7, [.ref a, .int tb, .int te, .int tw, .int tx])), (a, .inl (cI, 500, .inl tf))] := hD
  have hF := hF.trans (bd_e e1)
  refine lv_istore (lv' := [(4, .int q1), (0, .ref h), (1, .long x1), (3, .int x2)]) hx hb d_Text_append_4 hl (by decide) rfl (fun ls hl => ?_)
  refine lv_aload_n hx hb d_Text_append_6 rfl (lv_at hl 1 rfl) ?_
  refine va_get (D := D) (v := .ref a) (C := "ColonMachine$Text") (T := T_Text) (N := 5) hx hb hT i_Text hown hK hP 0 rfl rfl 0 (by decide) (hT _ fl_Text_11) (fun _ h9 => h9) rfl d_Text_append_7 ?_
  refine lv_aload_n hx hb d_Text_append_10 rfl (lv_at hl 1 rfl) ?_
  refine va_get (D := D) (v := .int tb) (C := "ColonMachine$Text") (T := T_Text) (N := 5) hx hb hT i_Text hown hK hP 0 rfl rfl 1 (by decide) (hT _ fl_Text_15) (fun _ h9 => h9) rfl d_Text_append_11 ?_
  refine lv_aload_n hx hb d_Text_append_14 rfl (lv_at hl 1 rfl) ?_
  refine va_get (D := D) (v := .ref a) (C := "ColonMachine$Text") (T := T_Text) (N := 5) hx hb hT i_Text hown hK hP 0 rfl rfl 0 (by decide) (hT _ fl_Text_11) (fun _ h9 => h9) rfl d_Text_append_15 ?_
  refine lv_iconst (v := 0) hx hb d_Text_append_18 (by decide) ?_
  refine lv_iload hx hb d_Text_append_19 (lv_at hl 0 rfl) ?_
  refine va_copyi hx hb (hml.trans hl.1.symm) hown (hT _ ml_Text_32) (hT _ na_System_arraycopy) (hT _ sm_System_arraycopy) (hT _ in_System) hK hP hD hS 1 1 0 0 rfl rfl rfl rfl rfl (by have := ti_lo tb; have := ti_hi tb; have := ti_lo te; have := ti_hi te; have := ti_lo tw; have := ti_hi tw; have := ti_lo tx; have := ti_hi tx; have := ti_lo q1; have := ti_hi q1; have t0 : Int32.toInt 0 = 0 := rfl; (try simp only [true_or, or_true, true_and, and_true, z_tn, CellsOk, CallsOk, TextOk, MemOk, OutOk, Int32.lt_iff_toInt_lt, Int32.le_iff_toInt_le, ← Int32.toInt_inj, Int32.toInt_add, Int32.toInt_sub, Int32.toInt_mul, Int32.toInt_neg, zbm, zbm', t0] at hi k1 ⊢) <;> omega) (by have := ti_lo tb; have := ti_hi tb; have := ti_lo te; have := ti_hi te; have := ti_lo tw; have := ti_hi tw; have := ti_lo tx; have := ti_hi tx; have := ti_lo q1; have := ti_hi q1; have t0 : Int32.toInt 0 = 0 := rfl; (try simp only [true_or, or_true, true_and, and_true, z_tn, CellsOk, CallsOk, TextOk, MemOk, OutOk, Int32.lt_iff_toInt_lt, Int32.le_iff_toInt_le, ← Int32.toInt_inj, Int32.toInt_add, Int32.toInt_sub, Int32.toInt_mul, Int32.toInt_neg, zbm, zbm', t0] at hi k1 ⊢) <;> omega) (by have := ti_lo q1; have := ti_hi q1; have := ti_lo tb; have := ti_hi tb; have := ti_lo te; have := ti_hi te; have := ti_lo tw; have := ti_hi tw; have := ti_lo tx; have := ti_hi tx; have t0 : Int32.toInt 0 = 0 := rfl; (try simp only [true_or, or_true, true_and, and_true, z_tn, CellsOk, CallsOk, TextOk, MemOk, OutOk, Int32.lt_iff_toInt_lt, Int32.le_iff_toInt_le, ← Int32.toInt_inj, Int32.toInt_add, Int32.toInt_sub, Int32.toInt_mul, Int32.toInt_neg, zbm, zbm', t0] at hi k1 ⊢) <;> omega) (by have := ti_lo tb; have := ti_hi tb; have := ti_lo te; have := ti_hi te; have := ti_lo tw; have := ti_hi tw; have := ti_lo tx; have := ti_hi tx; have := ti_lo q1; have := ti_hi q1; have t500 : Int32.toInt 500 = 500 := rfl; (try simp only [true_or, or_true, true_and, and_true, z_tn, CellsOk, CallsOk, TextOk, MemOk, OutOk, Int32.lt_iff_toInt_lt, Int32.le_iff_toInt_le, ← Int32.toInt_inj, Int32.toInt_add, Int32.toInt_sub, Int32.toInt_mul, Int32.toInt_neg, zbm, zbm', t500] at hi k1 ⊢) <;> omega) (by have := ti_lo tb; have := ti_hi tb; have := ti_lo te; have := ti_hi te; have := ti_lo tw; have := ti_hi tw; have := ti_lo tx; have := ti_hi tx; have := ti_lo q1; have := ti_hi q1; have t0 : Int32.toInt 0 = 0 := rfl; have t500 : Int32.toInt 500 = 500 := rfl; (try simp only [true_or, or_true, true_and, and_true, z_tn, CellsOk, CallsOk, TextOk, MemOk, OutOk, Int32.lt_iff_toInt_lt, Int32.le_iff_toInt_le, ← Int32.toInt_inj, Int32.toInt_add, Int32.toInt_sub, Int32.toInt_mul, Int32.toInt_neg, zbm, zbm', t0, t500] at hi k1 ⊢) <;> omega) (fun _ _ => rfl) (Nat.le_of_ble_eq_true rfl) (Nat.le_of_ble_eq_true rfl) d_Text_append_21 (fun H locs hP hD hS => ?_)
  have hP : va_P D classes [(h, .inr (7, [.ref a, .int tb, .int te, .int tw, .int tx])), (a, .inl (cI, 500, .inl (va_cpy tf tf tb.toNatClampNeg (0 : Int32).toNatClampNeg q1.toNatClampNeg)))] H := hP
  have hD : va_D A [(h, .inr (7, [.ref a, .int tb, .int te, .int tw, .int tx])), (a, .inl (cI, 500, .inl (va_cpy tf tf tb.toNatClampNeg (0 : Int32).toNatClampNeg q1.toNatClampNeg)))] := hD
  refine lv_aload_n hx hb d_Text_append_24 rfl (lv_at hl 1 rfl) ?_
  refine kN_sv (wr := [(a, .inl (cI, 500, .inl (va_cpy tf tf tb.toNatClampNeg (0 : Int32).toNatClampNeg q1.toNatClampNeg)))]) (fun u : Int32 × Int32 × Int32 × Int32 => [(h, .inr (7, [.ref a, .int u.1, .int u.2.1, .int u.2.2.1, .int u.2.2.2])), (a, .inl (cI, 500, .inl (va_cpy tf tf tb.toNatClampNeg (0 : Int32).toNatClampNeg q1.toNatClampNeg)))]) (zV (wc := [(h, .inr (7, [.ref a, .int tb, .int te, .int tw, .int tx]))]) (As := []) (rest := []) (st0 := [.ref h]) ⟨hx, hb, hml, hown, hT⟩ (c_Text_empty l D cI cJ cZ cW cT H.size h a tb te tw tx hi) (cwV 0 hT (tbV ml_Text_38 im_Text_empty se_Text_empty in_Text co_Text_empty) rfl rfl rfl v_Text_empty ⟨Nat.le_of_ble_eq_true rfl, Nat.le_of_ble_eq_true rfl⟩) hK hE hP hD hS hA [0] rfl rfl 0 rfl rfl rfl hl.1 rfl (Nat.le_of_ble_eq_true rfl) d_Text_append_25 ⟨Nat.le_of_ble_eq_true rfl, Nat.le_of_ble_eq_true rfl⟩) hP hD hS hA [0] [1] rfl rfl rfl (by decide) [1, 0] rfl (fun u => rfl) (fun q2 H locs e2 k2 hP hD hS => ?_)
  have hP : va_P D classes [(h, .inr (7, [.ref a, .int q2.1, .int q2.2.1, .int q2.2.2.1, .int q2.2.2.2])), (a, .inl (cI, 500, .inl (va_cpy tf tf tb.toNatClampNeg (0 : Int32).toNatClampNeg q1.toNatClampNeg)))] H := hP
  have hD : va_D A [(h, .inr (7, [.ref a, .int q2.1, .int q2.2.1, .int q2.2.2.1, .int q2.2.2.2])), (a, .inl (cI, 500, .inl (va_cpy tf tf tb.toNatClampNeg (0 : Int32).toNatClampNeg q1.toNatClampNeg)))] := hD
  have hF := hF.trans (bd_e e2)
  refine lv_aload_n hx hb d_Text_append_28 rfl (lv_at hl 1 rfl) ?_
  refine lv_iload hx hb d_Text_append_29 (lv_at hl 0 rfl) ?_
  refine va_put (D := D) (v := .int q1) (ty := .int) (C := "ColonMachine$Text") (T := T_Text) (N := 5) hx hb hT i_Text t_Text tk_Text n_Text hown hK hP hD hS 0 rfl rfl 2 (by decide) (hT _ fl_Text_19) (fun _ h9 => h9) rfl (by decide +kernel) rfl rfl (Nat.le_of_ble_eq_true rfl) d_Text_append_31 (fun H locs hP hD hS => ?_)
  have hP : va_P D classes [(h, .inr (7, [.ref a, .int q2.1, .int q1, .int q2.2.2.1, .int q2.2.2.2])), (a, .inl (cI, 500, .inl (va_cpy tf tf tb.toNatClampNeg (0 : Int32).toNatClampNeg q1.toNatClampNeg)))] H := hP
  have hD : va_D A [(h, .inr (7, [.ref a, .int q2.1, .int q1, .int q2.2.2.1, .int q2.2.2.2])), (a, .inl (cI, 500, .inl (va_cpy tf tf tb.toNatClampNeg (0 : Int32).toNatClampNeg q1.toNatClampNeg)))] := hD
  refine lv_iconst (v := 0) hx hb d_Text_append_34 (by decide) ?_
  refine lv_istore (lv' := [(5, .int 0), (4, .int q1), (0, .ref h), (1, .long x1), (3, .int x2)]) hx hb d_Text_append_35 hl (by decide) rfl (fun ls hl => ?_)
  have loop : ∀ (k37 : Nat) (v5 : Int32) (z0_2 : Int32) (z1_f : Nat → Int32) (hk : (x2.toInt - v5.toInt).toNat < k37) (hv0 : TextOk q2.1 z0_2 q2.2.2.1 q2.2.2.2) (hw : 0 ≤ v5.toInt) (H : Heap) (locs : List Loc) (ls : Array Slot) (hP : va_P D classes [(h, .inr (7, [.ref a, .int q2.1, .int z0_2, .int q2.2.2.1, .int q2.2.2.2])), (a, .inl (cI, 500, .inl z1_f))] H) (hD : va_D A [(h, .inr (7, [.ref a, .int q2.1, .int z0_2, .int q2.2.2.1, .int q2.2.2.2])), (a, .inl (cI, 500, .inl z1_f))]) (hS : va_S A s.heap H locs) (hl : lv_has ls 6 [(5, .int v5), (4, .int q1), (0, .ref h), (1, .long x1), (3, .int x2)]) (hF : F_Text_append tb te tf x1 x2 = F_Text_append_L37 x1 x2 q2 k37 v5 z0_2 z1_f), W p l e (headSpec w_Text_append ({ frames := 1, cells := 0, slots := 0, locals := 26 })).room s m (List.toArray [.ref h, .long x1, .int x2]) below meth c H locs 0 0 (MQ below (va_Qv (fun u : Int32 × Int32 × Int32 × Int32 × (Nat → Int32) => u = F_Text_append tb te tf x1 x2 ∧ ((TextOk u.1 u.2.1 u.2.2.1 u.2.2.2.1))) (fun u => zB D classes (TY cI cJ cZ cW cT) A [(h, .inr (7, [.ref a, .int u.1, .int u.2.1, .int u.2.2.1, .int u.2.2.2.1])), (a, .inl (cI, 500, .inl u.2.2.2.2))]) A) (List.toArray [.ref h, .long x1, .int x2]) s 0 0 A) (F0 m 37 ls []) := by
    intro k37
    induction k37 with
    | zero => intro v5 z0_2 z1_f hk; exact absurd hk (Nat.not_lt_zero _)
    | succ k37 ih =>
      intro v5 z0_2 z1_f hk hv0 hw H locs ls hP hD hS hl hF
      have hF := hF.trans (F_Text_append_L37_s x1 x2 q2 k37 v5 z0_2 z1_f)
      refine lv_iload hx hb d_Text_append_37 (lv_at hl 0 rfl) ?_
      refine lv_iload_n hx hb d_Text_append_39 rfl (lv_at hl 4 rfl) ?_
      refine lv_icmp_ge (tgt := 90) hx hb d_Text_append_40 (by decide) (fun c3 => ?_) (fun c3 => ?_)
      · have hF := hF.trans (if_pos c3)
        exact W.vret hx hb hr (fun t ht hW => ⟨⟨_, rfl, ⟨hF.symm, hv0⟩, ⟨by rw [ht]; exact hP, va_K.moved hW.alike hK, hD⟩⟩, hS.F ht⟩) hS.2.2 d_Text_append_90
      · have hF := hF.trans (if_neg c3)
        refine lv_aload_n hx hb d_Text_append_43 rfl (lv_at hl 2 rfl) ?_
        refine va_get (D := D) (v := .int z0_2) (C := "ColonMachine$Text") (T := T_Text) (N := 5) hx hb hT i_Text hown hK hP 0 rfl rfl 2 (by decide) (hT _ fl_Text_19) (fun _ h9 => h9) rfl d_Text_append_44 ?_
        refine lv_sipush (v := 500) hx hb d_Text_append_47 (by decide) ?_
        refine lv_icmp_ge (tgt := 90) hx hb d_Text_append_50 (by decide) (fun c4 => ?_) (fun c4 => ?_)
        · have hF := hF.trans (if_pos c4)
          exact W.vret hx hb hr (fun t ht hW => ⟨⟨_, rfl, ⟨hF.symm, hv0⟩, ⟨by rw [ht]; exact hP, va_K.moved hW.alike hK, hD⟩⟩, hS.F ht⟩) hS.2.2 d_Text_append_90
        · have hF := hF.trans (if_neg c4)
          refine lv_aload_n hx hb d_Text_append_53 rfl (lv_at hl 2 rfl) ?_
          refine va_get (D := D) (v := .ref a) (C := "ColonMachine$Text") (T := T_Text) (N := 5) hx hb hT i_Text hown hK hP 0 rfl rfl 0 (by decide) (hT _ fl_Text_11) (fun _ h9 => h9) rfl d_Text_append_54 ?_
          refine lv_aload_n hx hb d_Text_append_57 rfl (lv_at hl 2 rfl) ?_
          refine va_get (D := D) (v := .int z0_2) (C := "ColonMachine$Text") (T := T_Text) (N := 5) hx hb hT i_Text hown hK hP 0 rfl rfl 2 (by decide) (hT _ fl_Text_19) (fun _ h9 => h9) rfl d_Text_append_58 ?_
          refine lv_lload_n hx hb d_Text_append_61 rfl (lv_at hl 3 rfl) ?_
          refine lv_bipush (v := 8) hx hb d_Text_append_62 (by decide) ?_
          refine lv_iload hx hb d_Text_append_64 (lv_at hl 0 rfl) ?_
          refine lv_imul hx hb d_Text_append_66 ?_
          refine lv_lushr (v := (x1.toUInt64 >>> ((8 * v5).toInt64.toUInt64 &&& Int64.toUInt64 63)).toInt64) hx hb d_Text_append_67 rfl ?_
          refine lv_l2i (v := ((x1.toUInt64 >>> ((8 * v5).toInt64.toUInt64 &&& Int64.toUInt64 63)).toInt64).toInt32) hx hb d_Text_append_68 rfl ?_
          refine lv_sipush (v := 255) hx hb d_Text_append_69 (by decide) ?_
          refine lv_iand hx hb d_Text_append_72 ?_
          refine va_iast hx hb hK hP hD hS 1 0 rfl rfl (by have := ti_lo z0_2; have := ti_hi z0_2; have := ti_lo tb; have := ti_hi tb; have := ti_lo te; have := ti_hi te; have := ti_lo tw; have := ti_hi tw; have := ti_lo tx; have := ti_hi tx; have := ti_lo q1; have := ti_hi q1; have := ti_lo q2.1; have := ti_hi q2.1; have := ti_lo x2; have := ti_hi x2; have := ti_lo v5; have := ti_hi v5; have t500 : Int32.toInt 500 = 500 := rfl; have t0 : Int32.toInt 0 = 0 := rfl; rw [vp_in_iff]; (try simp only [true_or, or_true, true_and, and_true, z_tn, CellsOk, CallsOk, TextOk, MemOk, OutOk, Int32.lt_iff_toInt_lt, Int32.le_iff_toInt_le, ← Int32.toInt_inj, Int32.toInt_add, Int32.toInt_sub, Int32.toInt_mul, Int32.toInt_neg, zbm, zbm', t500, t0] at c3 c4 hi hv0 hw k1 k2 ⊢) <;> omega) d_Text_append_73 (fun H locs hP hD hS => ?_)
          have hP : va_P D classes [(h, .inr (7, [.ref a, .int q2.1, .int z0_2, .int q2.2.2.1, .int q2.2.2.2])), (a, .inl (cI, 500, .inl (upd z1_f z0_2.toNatClampNeg ((((x1.toUInt64 >>> ((8 * v5).toInt64.toUInt64 &&& Int64.toUInt64 63)).toInt64).toInt32) &&& 255))))] H := hP
          have hD : va_D A [(h, .inr (7, [.ref a, .int q2.1, .int z0_2, .int q2.2.2.1, .int q2.2.2.2])), (a, .inl (cI, 500, .inl (upd z1_f z0_2.toNatClampNeg ((((x1.toUInt64 >>> ((8 * v5).toInt64.toUInt64 &&& Int64.toUInt64 63)).toInt64).toInt32) &&& 255))))] := hD
          refine lv_aload_n hx hb d_Text_append_74 rfl (lv_at hl 2 rfl) ?_
          refine lv_dup hx hb d_Text_append_75 rfl ?_
          refine va_get (D := D) (v := .int z0_2) (C := "ColonMachine$Text") (T := T_Text) (N := 5) hx hb hT i_Text hown hK hP 0 rfl rfl 2 (by decide) (hT _ fl_Text_19) (fun _ h9 => h9) rfl d_Text_append_76 ?_
          refine lv_iconst (v := 1) hx hb d_Text_append_79 (by decide) ?_
          refine lv_iadd hx hb d_Text_append_80 ?_
          refine va_put (D := D) (v := .int (z0_2 + 1)) (ty := .int) (C := "ColonMachine$Text") (T := T_Text) (N := 5) hx hb hT i_Text t_Text tk_Text n_Text hown hK hP hD hS 0 rfl rfl 2 (by decide) (hT _ fl_Text_19) (fun _ h9 => h9) rfl (by decide +kernel) rfl rfl (Nat.le_of_ble_eq_true rfl) d_Text_append_81 (fun H locs hP hD hS => ?_)
          have hP : va_P D classes [(h, .inr (7, [.ref a, .int q2.1, .int (z0_2 + 1), .int q2.2.2.1, .int q2.2.2.2])), (a, .inl (cI, 500, .inl (upd z1_f z0_2.toNatClampNeg ((((x1.toUInt64 >>> ((8 * v5).toInt64.toUInt64 &&& Int64.toUInt64 63)).toInt64).toInt32) &&& 255))))] H := hP
          have hD : va_D A [(h, .inr (7, [.ref a, .int q2.1, .int (z0_2 + 1), .int q2.2.2.1, .int q2.2.2.2])), (a, .inl (cI, 500, .inl (upd z1_f z0_2.toNatClampNeg ((((x1.toUInt64 >>> ((8 * v5).toInt64.toUInt64 &&& Int64.toUInt64 63)).toInt64).toInt32) &&& 255))))] := hD
          refine lv_iinc (v := v5 + 1) (lv' := [(5, .int (v5 + 1)), (4, .int q1), (0, .ref h), (1, .long x1), (3, .int x2)]) hx hb d_Text_append_84 hl (k := 0) rfl rfl (by decide) rfl (fun ls hl => ?_)
          refine lv_goto (tgt := 37) hx hb d_Text_append_87 (by decide) ?_
          exact ih (v5 + 1) (z0_2 + 1) (upd z1_f z0_2.toNatClampNeg ((((x1.toUInt64 >>> ((8 * v5).toInt64.toUInt64 &&& Int64.toUInt64 63)).toInt64).toInt32) &&& 255)) (by have := ti_lo v5; have := ti_hi v5; have := ti_lo tb; have := ti_hi tb; have := ti_lo te; have := ti_hi te; have := ti_lo tw; have := ti_hi tw; have := ti_lo tx; have := ti_hi tx; have := ti_lo q1; have := ti_hi q1; have := ti_lo q2.1; have := ti_hi q2.1; have := ti_lo z0_2; have := ti_hi z0_2; have := ti_lo x2; have := ti_hi x2; have t1 : Int32.toInt 1 = 1 := rfl; have t0 : Int32.toInt 0 = 0 := rfl; have t500 : Int32.toInt 500 = 500 := rfl; (try simp only [true_or, or_true, true_and, and_true, z_tn, CellsOk, CallsOk, TextOk, MemOk, OutOk, Int32.lt_iff_toInt_lt, Int32.le_iff_toInt_le, ← Int32.toInt_inj, Int32.toInt_add, Int32.toInt_sub, Int32.toInt_mul, Int32.toInt_neg, zbm, zbm', t1, t0, t500] at c3 c4 hi hv0 hw k1 k2 hk ⊢) <;> omega) (by have := ti_lo q2.1; have := ti_hi q2.1; have := ti_lo z0_2; have := ti_hi z0_2; have := ti_lo tb; have := ti_hi tb; have := ti_lo te; have := ti_hi te; have := ti_lo tw; have := ti_hi tw; have := ti_lo tx; have := ti_hi tx; have := ti_lo q1; have := ti_hi q1; have := ti_lo x2; have := ti_hi x2; have := ti_lo v5; have := ti_hi v5; have t1 : Int32.toInt 1 = 1 := rfl; have t0 : Int32.toInt 0 = 0 := rfl; have t500 : Int32.toInt 500 = 500 := rfl; (try simp only [true_or, or_true, true_and, and_true, z_tn, CellsOk, CallsOk, TextOk, MemOk, OutOk, Int32.lt_iff_toInt_lt, Int32.le_iff_toInt_le, ← Int32.toInt_inj, Int32.toInt_add, Int32.toInt_sub, Int32.toInt_mul, Int32.toInt_neg, zbm, zbm', t1, t0, t500] at c3 c4 hi hv0 hw k1 k2 ⊢) <;> omega) (by have := ti_lo v5; have := ti_hi v5; have := ti_lo tb; have := ti_hi tb; have := ti_lo te; have := ti_hi te; have := ti_lo tw; have := ti_hi tw; have := ti_lo tx; have := ti_hi tx; have := ti_lo q1; have := ti_hi q1; have := ti_lo q2.1; have := ti_hi q2.1; have := ti_lo z0_2; have := ti_hi z0_2; have := ti_lo x2; have := ti_hi x2; have t0 : Int32.toInt 0 = 0 := rfl; have t1 : Int32.toInt 1 = 1 := rfl; have t500 : Int32.toInt 500 = 500 := rfl; (try simp only [true_or, or_true, true_and, and_true, z_tn, CellsOk, CallsOk, TextOk, MemOk, OutOk, Int32.lt_iff_toInt_lt, Int32.le_iff_toInt_le, ← Int32.toInt_inj, Int32.toInt_add, Int32.toInt_sub, Int32.toInt_mul, Int32.toInt_neg, zbm, zbm', t0, t1, t500] at c3 c4 hi hv0 hw k1 k2 ⊢) <;> omega) _ _ _ hP hD hS (lv_sub hl [0, 1, 2, 3, 4] rfl) hF
  exact loop (((x2.toInt - (0 : Int32).toInt).toNat) + 1) 0 q1 (va_cpy tf tf tb.toNatClampNeg (0 : Int32).toNatClampNeg q1.toNatClampNeg) (Nat.lt_succ_self _) (by have := ti_lo q2.1; have := ti_hi q2.1; have := ti_lo q1; have := ti_hi q1; have := ti_lo tb; have := ti_hi tb; have := ti_lo te; have := ti_hi te; have := ti_lo tw; have := ti_hi tw; have := ti_lo tx; have := ti_hi tx; have t0 : Int32.toInt 0 = 0 := rfl; (try simp only [true_or, or_true, true_and, and_true, z_tn, CellsOk, CallsOk, TextOk, MemOk, OutOk, Int32.lt_iff_toInt_lt, Int32.le_iff_toInt_le, ← Int32.toInt_inj, Int32.toInt_add, Int32.toInt_sub, Int32.toInt_mul, Int32.toInt_neg, zbm, zbm', t0] at hi k1 k2 ⊢) <;> omega) (by have := ti_lo tb; have := ti_hi tb; have := ti_lo te; have := ti_hi te; have := ti_lo tw; have := ti_hi tw; have := ti_lo tx; have := ti_hi tx; have := ti_lo q1; have := ti_hi q1; have t0 : Int32.toInt 0 = 0 := rfl; (try simp only [true_or, or_true, true_and, and_true, z_tn, CellsOk, CallsOk, TextOk, MemOk, OutOk, Int32.lt_iff_toInt_lt, Int32.le_iff_toInt_le, ← Int32.toInt_inj, Int32.toInt_add, Int32.toInt_sub, Int32.toInt_mul, Int32.toInt_neg, zbm, zbm', t0] at hi k1 k2 ⊢) <;> omega) _ _ _ hP hD hS (lv_sub hl [0, 1, 2, 3, 4] rfl) hF
def F_Text_hasMore_L0 (te : Int32) (tf : Nat → Int32) : Nat → (Int32) → Int32 × Int32
  | 0, _ => (0, 0)
  | k0 + 1, z0_1 => if te ≤ z0_1 then (0, z0_1) else (if 32 < (tf z0_1.toNatClampNeg) then (1, z0_1) else (F_Text_hasMore_L0 te tf k0 (z0_1 + 1)))
theorem F_Text_hasMore_L0_s (te : Int32) (tf : Nat → Int32) (k0 : Nat) (z0_1 : Int32) : F_Text_hasMore_L0 te tf (k0 + 1) z0_1 = if te ≤ z0_1 then (0, z0_1) else (if 32 < (tf z0_1.toNatClampNeg) then (1, z0_1) else (F_Text_hasMore_L0 te tf k0 (z0_1 + 1))) := rfl
/-- the picture of ColonMachine$Text.hasMore -/
def F_Text_hasMore (tb : Int32) (te : Int32) (tf : Nat → Int32) : Int32 × Int32 := F_Text_hasMore_L0 te tf (((te.toInt - tb.toInt).toNat) + 1) tb
theorem F_Text_hasMore_e (tb : Int32) (te : Int32) (tf : Nat → Int32) : F_Text_hasMore tb te tf = F_Text_hasMore_L0 te tf (((te.toInt - tb.toInt).toNat) + 1) tb := rfl
set_option maxHeartbeats 4000000 in
set_option maxRecDepth 100000 in
theorem c_Text_hasMore (l : Launch) (D : va_G) (cI cJ cZ cW cT : ClassId) (sz : Nat) (h : Nat) (a : Nat) (tb : Int32) (te : Int32) (tw : Int32) (tx : Int32) (tf : Nat → Int32) (hi : TextOk tb te tw tx) : Met l y_Text_hasMore w_Text_hasMore ({ frames := 0, cells := 0, slots := 0, locals := 0 }) (va_Pc [.ref h] (zP D classes (TY cI cJ cZ cW cT) [(h, .inr (7, [.ref a, .int tb, .int te, .int tw, .int tx])), (a, .inl (cI, 500, .inl tf))] sz)) (va_Qi (fun (r : Int32) (u : Int32) => (r, u) = F_Text_hasMore tb te tf ∧ ((TextOk u te tw tx) ∧ (r.toInt = 0 ∨ tb.toInt < te.toInt) ∧ (r = 0 ∨ r = 1))) (fun u => zB D classes (TY cI cJ cZ cW cT) (va_A [(h, .inr (7, [.ref a, .int tb, .int te, .int tw, .int tx])), (a, .inl (cI, 500, .inl tf))] sz) [(h, .inr (7, [.ref a, .int u, .int te, .int tw, .int tx])), (a, .inl (cI, 500, .inl tf))]) (va_A [(h, .inr (7, [.ref a, .int tb, .int te, .int tw, .int tx])), (a, .inl (cI, 500, .inl tf))] sz)) 0 0 (va_A [(h, .inr (7, [.ref a, .int tb, .int te, .int tw, .int tx])), (a, .inl (cI, 500, .inl tf))] sz) := by
  refine Met.ofW (cc := b_Text_hasMore) (maxL := 1) (ret := (some .boolean)) (by decide) rfl ?_
  intro p e s m args below meth c s₁ B hml hv
  obtain ⟨rfl, hsz, hP, hK, hD0, hE⟩ := hv
  have hx := B.exec
  have hb := B.bytes
  have hr := B.returns
  have hts := atoms_spec (ws := w_Text_hasMore) B.pre
  have hT : ∀ w ∈ TB, w.before _ s = true := fun w h => hts w (List.mem_cons_of_mem _ h)
  have hown : s.vm.findClass "ColonMachine$Text" = some m.cls := findClass_of_methodNamed B.named
  have hlocks := B.notSynchronized
  subst hsz
  have hD := hD0.self (sz := s.heap.size)
  generalize hAe : va_A [(h, .inr (7, [.ref a, .int tb, .int te, .int tw, .int tx])), (a, .inl (cI, 500, .inl tf))] s.heap.size = A at hD hE ⊢
  have hA : ∀ q : Nat, s.heap.size ≤ q → A q := fun q h => by rw [← hAe]; exact Or.inr h
  have hS : va_S A s.heap s.heap [] := va_S.rf
  have hl := lv_entry [.ref h] (n := 1) (Nat.le_of_ble_eq_true rfl)
  rw [lg_entry_eq]
  generalize (lg_sl [.ref h] ++ List.replicate (1 - (lg_sl [.ref h]).length) Slot.unset).toArray = ls at hl ⊢
  have hl : lv_has ls 1 [(0, .ref h)] := hl
  have hF := F_Text_hasMore_e tb te tf
  have loop : ∀ (k0 : Nat) (z0_1 : Int32) (hk : (te.toInt - z0_1.toInt).toNat < k0) (hv0 : TextOk z0_1 te tw tx) (hw : tb.toInt ≤ z0_1.toInt) (H : Heap) (locs : List Loc) (ls : Array Slot) (hP : va_P D classes [(h, .inr (7, [.ref a, .int z0_1, .int te, .int tw, .int tx])), (a, .inl (cI, 500, .inl tf))] H) (hD : va_D A [(h, .inr (7, [.ref a, .int z0_1, .int te, .int tw, .int tx])), (a, .inl (cI, 500, .inl tf))]) (hS : va_S A s.heap H locs) (hl : lv_has ls 1 [(0, .ref h)]) (hF : F_Text_hasMore tb te tf = F_Text_hasMore_L0 te tf k0 z0_1), W p l e (headSpec w_Text_hasMore ({ frames := 0, cells := 0, slots := 0, locals := 0 })).room s m (List.toArray [.ref h]) below meth c H locs 0 0 (MQ below (va_Qi (fun (r : Int32) (u : Int32) => (r, u) = F_Text_hasMore tb te tf ∧ ((TextOk u te tw tx) ∧ (r.toInt = 0 ∨ tb.toInt < te.toInt) ∧ (r = 0 ∨ r = 1))) (fun u => zB D classes (TY cI cJ cZ cW cT) A [(h, .inr (7, [.ref a, .int u, .int te, .int tw, .int tx])), (a, .inl (cI, 500, .inl tf))]) A) (List.toArray [.ref h]) s 0 0 A) (F0 m 0 ls []) := by
    intro k0
    induction k0 with
    | zero => intro z0_1 hk; exact absurd hk (Nat.not_lt_zero _)
    | succ k0 ih =>
      intro z0_1 hk hv0 hw H locs ls hP hD hS hl hF
      have hF := hF.trans (F_Text_hasMore_L0_s te tf k0 z0_1)
      refine lv_aload_n hx hb d_Text_hasMore_0 rfl (lv_at hl 0 rfl) ?_
      refine va_get (D := D) (v := .int z0_1) (C := "ColonMachine$Text") (T := T_Text) (N := 5) hx hb hT i_Text hown hK hP 0 rfl rfl 1 (by decide) (hT _ fl_Text_15) (fun _ h9 => h9) rfl d_Text_hasMore_1 ?_
      refine lv_aload_n hx hb d_Text_hasMore_4 rfl (lv_at hl 0 rfl) ?_
      refine va_get (D := D) (v := .int te) (C := "ColonMachine$Text") (T := T_Text) (N := 5) hx hb hT i_Text hown hK hP 0 rfl rfl 2 (by decide) (hT _ fl_Text_19) (fun _ h9 => h9) rfl d_Text_hasMore_5 ?_
      refine lv_icmp_ge (tgt := 38) hx hb d_Text_hasMore_8 (by decide) (fun c1 => ?_) (fun c1 => ?_)
      · have hF := hF.trans (if_pos c1)
        refine lv_aload_n hx hb d_Text_hasMore_38 rfl (lv_at hl 0 rfl) ?_
        refine va_get (D := D) (v := .int z0_1) (C := "ColonMachine$Text") (T := T_Text) (N := 5) hx hb hT i_Text hown hK hP 0 rfl rfl 1 (by decide) (hT _ fl_Text_15) (fun _ h9 => h9) rfl d_Text_hasMore_39 ?_
        refine lv_aload_n hx hb d_Text_hasMore_42 rfl (lv_at hl 0 rfl) ?_
        refine va_get (D := D) (v := .int te) (C := "ColonMachine$Text") (T := T_Text) (N := 5) hx hb hT i_Text hown hK hP 0 rfl rfl 2 (by decide) (hT _ fl_Text_19) (fun _ h9 => h9) rfl d_Text_hasMore_43 ?_
        refine lv_icmp_ge (tgt := 53) hx hb d_Text_hasMore_46 (by decide) (fun c2 => ?_) (fun c2 => ?_)
        · refine lv_iconst (v := 0) hx hb d_Text_hasMore_53 (by decide) ?_
          exact W.zret (v := 0) hx hb hr rfl (fun t ht hW => ⟨⟨_, _, rfl, ⟨hF.symm, ⟨hv0, (by have := ti_lo tb; have := ti_hi tb; have := ti_lo te; have := ti_hi te; have := ti_lo tw; have := ti_hi tw; have := ti_lo tx; have := ti_hi tx; have := ti_lo z0_1; have := ti_hi z0_1; have t0 : Int32.toInt 0 = 0 := rfl; (try simp only [true_or, or_true, true_and, and_true, z_tn, CellsOk, CallsOk, TextOk, MemOk, OutOk, Int32.lt_iff_toInt_lt, Int32.le_iff_toInt_le, ← Int32.toInt_inj, Int32.toInt_add, Int32.toInt_sub, Int32.toInt_mul, Int32.toInt_neg, zbm, zbm', t0] at c1 hi hv0 hw ⊢) <;> omega), (Or.inl rfl)⟩⟩, ⟨by rw [ht]; exact hP, va_K.moved hW.alike hK, hD⟩⟩, hS.F ht⟩) hS.2.2 d_Text_hasMore_54
        · exact absurd c1 c2
      · have hF := hF.trans (if_neg c1)
        refine lv_aload_n hx hb d_Text_hasMore_11 rfl (lv_at hl 0 rfl) ?_
        refine va_get (D := D) (v := .ref a) (C := "ColonMachine$Text") (T := T_Text) (N := 5) hx hb hT i_Text hown hK hP 0 rfl rfl 0 (by decide) (hT _ fl_Text_11) (fun _ h9 => h9) rfl d_Text_hasMore_12 ?_
        refine lv_aload_n hx hb d_Text_hasMore_15 rfl (lv_at hl 0 rfl) ?_
        refine va_get (D := D) (v := .int z0_1) (C := "ColonMachine$Text") (T := T_Text) (N := 5) hx hb hT i_Text hown hK hP 0 rfl rfl 1 (by decide) (hT _ fl_Text_15) (fun _ h9 => h9) rfl d_Text_hasMore_16 ?_
        refine va_iald hx hb hK hP 1 0 rfl rfl (by have := ti_lo z0_1; have := ti_hi z0_1; have := ti_lo tb; have := ti_hi tb; have := ti_lo te; have := ti_hi te; have := ti_lo tw; have := ti_hi tw; have := ti_lo tx; have := ti_hi tx; have t500 : Int32.toInt 500 = 500 := rfl; rw [vp_in_iff]; (try simp only [true_or, or_true, true_and, and_true, z_tn, CellsOk, CallsOk, TextOk, MemOk, OutOk, Int32.lt_iff_toInt_lt, Int32.le_iff_toInt_le, ← Int32.toInt_inj, Int32.toInt_add, Int32.toInt_sub, Int32.toInt_mul, Int32.toInt_neg, zbm, zbm', t500] at c1 hi hv0 hw ⊢) <;> omega) d_Text_hasMore_19 ?_
        refine lv_bipush (v := 32) hx hb d_Text_hasMore_20 (by decide) ?_
        refine lv_icmp_gt (tgt := 38) hx hb d_Text_hasMore_22 (by decide) (fun c3 => ?_) (fun c3 => ?_)
        · have hF := hF.trans (if_pos c3)
          refine lv_aload_n hx hb d_Text_hasMore_38 rfl (lv_at hl 0 rfl) ?_
          refine va_get (D := D) (v := .int z0_1) (C := "ColonMachine$Text") (T := T_Text) (N := 5) hx hb hT i_Text hown hK hP 0 rfl rfl 1 (by decide) (hT _ fl_Text_15) (fun _ h9 => h9) rfl d_Text_hasMore_39 ?_
          refine lv_aload_n hx hb d_Text_hasMore_42 rfl (lv_at hl 0 rfl) ?_
          refine va_get (D := D) (v := .int te) (C := "ColonMachine$Text") (T := T_Text) (N := 5) hx hb hT i_Text hown hK hP 0 rfl rfl 2 (by decide) (hT _ fl_Text_19) (fun _ h9 => h9) rfl d_Text_hasMore_43 ?_
          refine lv_icmp_ge (tgt := 53) hx hb d_Text_hasMore_46 (by decide) (fun c4 => ?_) (fun c4 => ?_)
          · exact absurd c4 c1
          · refine lv_iconst (v := 1) hx hb d_Text_hasMore_49 (by decide) ?_
            refine lv_goto (tgt := 54) hx hb d_Text_hasMore_50 (by decide) ?_
            exact W.zret (v := 1) hx hb hr rfl (fun t ht hW => ⟨⟨_, _, rfl, ⟨hF.symm, ⟨hv0, (by have := ti_lo tb; have := ti_hi tb; have := ti_lo te; have := ti_hi te; have := ti_lo tw; have := ti_hi tw; have := ti_lo tx; have := ti_hi tx; have := ti_lo z0_1; have := ti_hi z0_1; have t1 : Int32.toInt 1 = 1 := rfl; have t0 : Int32.toInt 0 = 0 := rfl; have t32 : Int32.toInt 32 = 32 := rfl; (try simp only [true_or, or_true, true_and, and_true, z_tn, CellsOk, CallsOk, TextOk, MemOk, OutOk, Int32.lt_iff_toInt_lt, Int32.le_iff_toInt_le, ← Int32.toInt_inj, Int32.toInt_add, Int32.toInt_sub, Int32.toInt_mul, Int32.toInt_neg, zbm, zbm', t1, t0, t32] at c1 c3 hi hv0 hw ⊢) <;> omega), (Or.inr rfl)⟩⟩, ⟨by rw [ht]; exact hP, va_K.moved hW.alike hK, hD⟩⟩, hS.F ht⟩) hS.2.2 d_Text_hasMore_54
        · have hF := hF.trans (if_neg c3)
          refine lv_aload_n hx hb d_Text_hasMore_25 rfl (lv_at hl 0 rfl) ?_
          refine lv_dup hx hb d_Text_hasMore_26 rfl ?_
          refine va_get (D := D) (v := .int z0_1) (C := "ColonMachine$Text") (T := T_Text) (N := 5) hx hb hT i_Text hown hK hP 0 rfl rfl 1 (by decide) (hT _ fl_Text_15) (fun _ h9 => h9) rfl d_Text_hasMore_27 ?_
          refine lv_iconst (v := 1) hx hb d_Text_hasMore_30 (by decide) ?_
          refine lv_iadd hx hb d_Text_hasMore_31 ?_
          refine va_put (D := D) (v := .int (z0_1 + 1)) (ty := .int) (C := "ColonMachine$Text") (T := T_Text) (N := 5) hx hb hT i_Text t_Text tk_Text n_Text hown hK hP hD hS 0 rfl rfl 1 (by decide) (hT _ fl_Text_15) (fun _ h9 => h9) rfl (by decide +kernel) rfl rfl (Nat.le_of_ble_eq_true rfl) d_Text_hasMore_32 (fun H locs hP hD hS => ?_)
          have hP : va_P D classes [(h, .inr (7, [.ref a, .int (z0_1 + 1), .int te, .int tw, .int tx])), (a, .inl (cI, 500, .inl tf))] H := hP
          have hD : va_D A [(h, .inr (7, [.ref a, .int (z0_1 + 1), .int te, .int tw, .int tx])), (a, .inl (cI, 500, .inl tf))] := hD
          refine lv_goto (tgt := 0) hx hb d_Text_hasMore_35 (by decide) ?_
          exact ih (z0_1 + 1) (by have := ti_lo z0_1; have := ti_hi z0_1; have := ti_lo tb; have := ti_hi tb; have := ti_lo te; have := ti_hi te; have := ti_lo tw; have := ti_hi tw; have := ti_lo tx; have := ti_hi tx; have t1 : Int32.toInt 1 = 1 := rfl; have t32 : Int32.toInt 32 = 32 := rfl; (try simp only [true_or, or_true, true_and, and_true, z_tn, CellsOk, CallsOk, TextOk, MemOk, OutOk, Int32.lt_iff_toInt_lt, Int32.le_iff_toInt_le, ← Int32.toInt_inj, Int32.toInt_add, Int32.toInt_sub, Int32.toInt_mul, Int32.toInt_neg, zbm, zbm', t1, t32] at c1 c3 hi hv0 hw hk ⊢) <;> omega) (by have := ti_lo z0_1; have := ti_hi z0_1; have := ti_lo te; have := ti_hi te; have := ti_lo tw; have := ti_hi tw; have := ti_lo tx; have := ti_hi tx; have := ti_lo tb; have := ti_hi tb; have t1 : Int32.toInt 1 = 1 := rfl; have t32 : Int32.toInt 32 = 32 := rfl; (try simp only [true_or, or_true, true_and, and_true, z_tn, CellsOk, CallsOk, TextOk, MemOk, OutOk, Int32.lt_iff_toInt_lt, Int32.le_iff_toInt_le, ← Int32.toInt_inj, Int32.toInt_add, Int32.toInt_sub, Int32.toInt_mul, Int32.toInt_neg, zbm, zbm', t1, t32] at c1 c3 hi hv0 hw ⊢) <;> omega) (by have := ti_lo z0_1; have := ti_hi z0_1; have := ti_lo tb; have := ti_hi tb; have := ti_lo te; have := ti_hi te; have := ti_lo tw; have := ti_hi tw; have := ti_lo tx; have := ti_hi tx; have t1 : Int32.toInt 1 = 1 := rfl; have t32 : Int32.toInt 32 = 32 := rfl; (try simp only [true_or, or_true, true_and, and_true, z_tn, CellsOk, CallsOk, TextOk, MemOk, OutOk, Int32.lt_iff_toInt_lt, Int32.le_iff_toInt_le, ← Int32.toInt_inj, Int32.toInt_add, Int32.toInt_sub, Int32.toInt_mul, Int32.toInt_neg, zbm, zbm', t1, t32] at c1 c3 hi hv0 hw ⊢) <;> omega) _ _ _ hP hD hS (lv_sub hl [0] rfl) hF
  exact loop (((te.toInt - tb.toInt).toNat) + 1) tb (Nat.lt_succ_self _) hi (by have := ti_lo tb; have := ti_hi tb; have := ti_lo te; have := ti_hi te; have := ti_lo tw; have := ti_hi tw; have := ti_lo tx; have := ti_hi tx; (try simp only [true_or, or_true, true_and, and_true, z_tn, CellsOk, CallsOk, TextOk, MemOk, OutOk, Int32.lt_iff_toInt_lt, Int32.le_iff_toInt_le, ← Int32.toInt_inj, Int32.toInt_add, Int32.toInt_sub, Int32.toInt_mul, Int32.toInt_neg, zbm, zbm'] at hi ⊢) <;> omega) _ _ _ hP hD hS (lv_sub hl [0] rfl) hF
/-- the picture of ColonMachine$Text.lower -/
def F_Text_lower (x1 : Int32) : Int32 := if x1 < 65 then x1 else (if 90 < x1 then x1 else (x1 + 32))
theorem F_Text_lower_e (x1 : Int32) : F_Text_lower x1 = if x1 < 65 then x1 else (if 90 < x1 then x1 else (x1 + 32)) := rfl
set_option maxHeartbeats 4000000 in
set_option maxRecDepth 100000 in
theorem c_Text_lower (l : Launch) (D : va_G) (cI cJ cZ cW cT : ClassId) (sz : Nat) (x1 : Int32)  : Met l y_Text_lower w_Text_lower ({ frames := 0, cells := 0, slots := 0, locals := 0 }) (va_Pc [.int x1] (zP D classes (TY cI cJ cZ cW cT) [] sz)) (va_Qi (fun (r : Int32) (_ : Unit) => r = F_Text_lower x1 ∧ (True)) (fun _ => zB D classes (TY cI cJ cZ cW cT) (va_A [] sz) []) (va_A [] sz)) 0 0 (va_A [] sz) := by
  refine Met.ofW (cc := b_Text_lower) (maxL := 1) (ret := (some .int)) (by decide) rfl ?_
  intro p e s m args below meth c s₁ B hml hv
  obtain ⟨rfl, hsz, hP, hK, hD0, hE⟩ := hv
  have hx := B.exec
  have hb := B.bytes
  have hr := B.returns
  have hts := atoms_spec (ws := w_Text_lower) B.pre
  have hT : ∀ w ∈ TB, w.before _ s = true := fun w h => hts w (List.mem_cons_of_mem _ h)
  have hown : s.vm.findClass "ColonMachine$Text" = some m.cls := findClass_of_methodNamed B.named
  have hlocks := B.notSynchronized
  subst hsz
  have hD := hD0.self (sz := s.heap.size)
  generalize hAe : va_A [] s.heap.size = A at hD hE ⊢
  have hA : ∀ q : Nat, s.heap.size ≤ q → A q := fun q h => by rw [← hAe]; exact Or.inr h
  have hS : va_S A s.heap s.heap [] := va_S.rf
  have hl := lv_entry [.int x1] (n := 1) (Nat.le_of_ble_eq_true rfl)
  rw [lg_entry_eq]
  generalize (lg_sl [.int x1] ++ List.replicate (1 - (lg_sl [.int x1]).length) Slot.unset).toArray = ls at hl ⊢
  have hl : lv_has ls 1 [(0, .int x1)] := hl
  have hF := F_Text_lower_e x1
  refine lv_iload_n hx hb d_Text_lower_0 rfl (lv_at hl 0 rfl) ?_
  refine lv_bipush (v := 65) hx hb d_Text_lower_1 (by decide) ?_
  refine lv_icmp_lt (tgt := 19) hx hb d_Text_lower_3 (by decide) (fun c1 => ?_) (fun c1 => ?_)
  · have hF := hF.trans (if_pos c1)
    refine lv_iload_n hx hb d_Text_lower_19 rfl (lv_at hl 0 rfl) ?_
    exact W.iret (v := x1) hx hb hr (fun t ht hW => ⟨⟨_, (), rfl, ⟨hF.symm, trivial⟩, ⟨by rw [ht]; exact hP, va_K.moved hW.alike hK, hD⟩⟩, hS.F ht⟩) hS.2.2 d_Text_lower_20
  · have hF := hF.trans (if_neg c1)
    refine lv_iload_n hx hb d_Text_lower_6 rfl (lv_at hl 0 rfl) ?_
    refine lv_bipush (v := 90) hx hb d_Text_lower_7 (by decide) ?_
    refine lv_icmp_gt (tgt := 19) hx hb d_Text_lower_9 (by decide) (fun c2 => ?_) (fun c2 => ?_)
    · have hF := hF.trans (if_pos c2)
      refine lv_iload_n hx hb d_Text_lower_19 rfl (lv_at hl 0 rfl) ?_
      exact W.iret (v := x1) hx hb hr (fun t ht hW => ⟨⟨_, (), rfl, ⟨hF.symm, trivial⟩, ⟨by rw [ht]; exact hP, va_K.moved hW.alike hK, hD⟩⟩, hS.F ht⟩) hS.2.2 d_Text_lower_20
    · have hF := hF.trans (if_neg c2)
      refine lv_iload_n hx hb d_Text_lower_12 rfl (lv_at hl 0 rfl) ?_
      refine lv_bipush (v := 32) hx hb d_Text_lower_13 (by decide) ?_
      refine lv_iadd hx hb d_Text_lower_15 ?_
      refine lv_goto (tgt := 20) hx hb d_Text_lower_16 (by decide) ?_
      exact W.iret (v := x1 + 32) hx hb hr (fun t ht hW => ⟨⟨_, (), rfl, ⟨hF.symm, trivial⟩, ⟨by rw [ht]; exact hP, va_K.moved hW.alike hK, hD⟩⟩, hS.F ht⟩) hS.2.2 d_Text_lower_20
def F_Text_readWord_L13 (te : Int32) (q1 : Int32 × Int32) : Nat → (Int32) → (Nat → Int32) → Int32 × Int32 × Int32 × Int32 × (Nat → Int32)
  | 0, _, _ => (0, (0, 0, 0, (fun _ => 0)))
  | k13 + 1, z0_1, z1_f => if te ≤ z0_1 then (q1.1, (z0_1, q1.2, z0_1, z1_f)) else (if (z1_f z0_1.toNatClampNeg) ≤ 32 then (q1.1, (z0_1 + 1, q1.2, z0_1, z1_f)) else (bd (F_Text_lower (z1_f z0_1.toNatClampNeg)) (fun q6 => F_Text_readWord_L13 te q1 k13 (z0_1 + 1) (upd z1_f z0_1.toNatClampNeg q6))))
theorem F_Text_readWord_L13_s (te : Int32) (q1 : Int32 × Int32) (k13 : Nat) (z0_1 : Int32) (z1_f : Nat → Int32) : F_Text_readWord_L13 te q1 (k13 + 1) z0_1 z1_f = if te ≤ z0_1 then (q1.1, (z0_1, q1.2, z0_1, z1_f)) else (if (z1_f z0_1.toNatClampNeg) ≤ 32 then (q1.1, (z0_1 + 1, q1.2, z0_1, z1_f)) else (bd (F_Text_lower (z1_f z0_1.toNatClampNeg)) (fun q6 => F_Text_readWord_L13 te q1 k13 (z0_1 + 1) (upd z1_f z0_1.toNatClampNeg q6)))) := rfl
/-- the picture of ColonMachine$Text.readWord -/
def F_Text_readWord (tb : Int32) (te : Int32) (tf : Nat → Int32) : Int32 × Int32 × Int32 × Int32 × (Nat → Int32) := bd (F_Text_hasMore tb te tf) (fun q1 => F_Text_readWord_L13 te q1 (((te.toInt - q1.2.toInt).toNat) + 1) q1.2 tf)
theorem F_Text_readWord_e (tb : Int32) (te : Int32) (tf : Nat → Int32) : F_Text_readWord tb te tf = bd (F_Text_hasMore tb te tf) (fun q1 => F_Text_readWord_L13 te q1 (((te.toInt - q1.2.toInt).toNat) + 1) q1.2 tf) := rfl
set_option maxHeartbeats 4000000 in
set_option maxRecDepth 100000 in
theorem c_Text_readWord (l : Launch) (D : va_G) (cI cJ cZ cW cT : ClassId) (sz : Nat) (h : Nat) (a : Nat) (tb : Int32) (te : Int32) (tw : Int32) (tx : Int32) (tf : Nat → Int32) (hi : TextOk tb te tw tx) : Met l y_Text_readWord w_Text_readWord ({ frames := 1, cells := 0, slots := 0, locals := 20 }) (va_Pc [.ref h] (zP D classes (TY cI cJ cZ cW cT) [(h, .inr (7, [.ref a, .int tb, .int te, .int tw, .int tx])), (a, .inl (cI, 500, .inl tf))] sz)) (va_Qi (fun (r : Int32) (u : Int32 × Int32 × Int32 × (Nat → Int32)) => (r, u) = F_Text_readWord tb te tf ∧ ((TextOk u.1 te u.2.1 u.2.2.1) ∧ (r = 0 ∨ r = 1))) (fun u => zB D classes (TY cI cJ cZ cW cT) (va_A [(h, .inr (7, [.ref a, .int tb, .int te, .int tw, .int tx])), (a, .inl (cI, 500, .inl tf))] sz) [(h, .inr (7, [.ref a, .int u.1, .int te, .int u.2.1, .int u.2.2.1])), (a, .inl (cI, 500, .inl u.2.2.2))]) (va_A [(h, .inr (7, [.ref a, .int tb, .int te, .int tw, .int tx])), (a, .inl (cI, 500, .inl tf))] sz)) 0 0 (va_A [(h, .inr (7, [.ref a, .int tb, .int te, .int tw, .int tx])), (a, .inl (cI, 500, .inl tf))] sz) := by
  refine Met.ofW (cc := b_Text_readWord) (maxL := 2) (ret := (some .boolean)) (by decide) rfl ?_
  intro p e s m args below meth c s₁ B hml hv
  obtain ⟨rfl, hsz, hP, hK, hD0, hE⟩ := hv
  have hx := B.exec
  have hb := B.bytes
  have hr := B.returns
  have hts := atoms_spec (ws := w_Text_readWord) B.pre
  have hT : ∀ w ∈ TB, w.before _ s = true := fun w h => hts w (List.mem_cons_of_mem _ h)
  have hown : s.vm.findClass "ColonMachine$Text" = some m.cls := findClass_of_methodNamed B.named
  have hlocks := B.notSynchronized
  subst hsz
  have hD := hD0.self (sz := s.heap.size)
  generalize hAe : va_A [(h, .inr (7, [.ref a, .int tb, .int te, .int tw, .int tx])), (a, .inl (cI, 500, .inl tf))] s.heap.size = A at hD hE ⊢
  have hA : ∀ q : Nat, s.heap.size ≤ q → A q := fun q h => by rw [← hAe]; exact Or.inr h
  have hS : va_S A s.heap s.heap [] := va_S.rf
  have hl := lv_entry [.ref h] (n := 2) (Nat.le_of_ble_eq_true rfl)
  rw [lg_entry_eq]
  generalize (lg_sl [.ref h] ++ List.replicate (2 - (lg_sl [.ref h]).length) Slot.unset).toArray = ls at hl ⊢
  have hl : lv_has ls 2 [(0, .ref h)] := hl
  have hF := F_Text_readWord_e tb te tf
  refine lv_aload_n hx hb d_Text_readWord_0 rfl (lv_at hl 0 rfl) ?_
  refine kN_si (wr := []) (fun u : Int32 => [(h, .inr (7, [.ref a, .int u, .int te, .int tw, .int tx])), (a, .inl (cI, 500, .inl tf))]) (zV (wc := [(h, .inr (7, [.ref a, .int tb, .int te, .int tw, .int tx])), (a, .inl (cI, 500, .inl tf))]) (As := []) (rest := []) (st0 := [.ref h]) ⟨hx, hb, hml, hown, hT⟩ (c_Text_hasMore l D cI cJ cZ cW cT s.heap.size h a tb te tw tx tf hi) (cwV 0 hT (tbV ml_Text_41 im_Text_hasMore se_Text_hasMore in_Text co_Text_hasMore) rfl rfl rfl v_Text_hasMore ⟨Nat.le_of_ble_eq_true rfl, Nat.le_of_ble_eq_true rfl⟩) hK hE hP hD hS hA [0, 1] rfl rfl 0 rfl rfl rfl hl.1 rfl (Nat.le_of_ble_eq_true rfl) d_Text_readWord_1 ⟨Nat.le_of_ble_eq_true rfl, Nat.le_of_ble_eq_true rfl⟩) hP hD hS hA [0, 1] [] rfl rfl rfl (by decide) [0, 1] rfl (fun u => rfl) (fun q1 H locs e1 k1 hP hD hS => ?_)
  have hP : va_P D classes [(h, .inr (7, [.ref a, .int q1.2, .int te, .int tw, .int tx])), (a, .inl (cI, 500, .inl tf))] H := hP
  have hD : va_D A [(h, .inr (7, [.ref a, .int q1.2, .int te, .int tw, .int tx])), (a, .inl (cI, 500, .inl tf))] := hD
  have hF := hF.trans (bd_e e1)
  refine lv_istore_n (lv' := [(1, .int q1.1), (0, .ref h)]) hx hb d_Text_readWord_4 rfl hl (by decide) rfl (fun ls hl => ?_)
  refine lv_aload_n hx hb d_Text_readWord_5 rfl (lv_at hl 1 rfl) ?_
  refine lv_aload_n hx hb d_Text_readWord_6 rfl (lv_at hl 1 rfl) ?_
  refine va_get (D := D) (v := .int q1.2) (C := "ColonMachine$Text") (T := T_Text) (N := 5) hx hb hT i_Text hown hK hP 0 rfl rfl 1 (by decide) (hT _ fl_Text_15) (fun _ h9 => h9) rfl d_Text_readWord_7 ?_
  refine va_put (D := D) (v := .int q1.2) (ty := .int) (C := "ColonMachine$Text") (T := T_Text) (N := 5) hx hb hT i_Text t_Text tk_Text n_Text hown hK hP hD hS 0 rfl rfl 3 (by decide) (hT _ fl_Text_22) (fun _ h9 => h9) rfl (by decide +kernel) rfl rfl (Nat.le_of_ble_eq_true rfl) d_Text_readWord_10 (fun H locs hP hD hS => ?_)
  have hP : va_P D classes [(h, .inr (7, [.ref a, .int q1.2, .int te, .int q1.2, .int tx])), (a, .inl (cI, 500, .inl tf))] H := hP
  have hD : va_D A [(h, .inr (7, [.ref a, .int q1.2, .int te, .int q1.2, .int tx])), (a, .inl (cI, 500, .inl tf))] := hD
  have loop : ∀ (k13 : Nat) (z0_1 : Int32) (z1_f : Nat → Int32) (hk : (te.toInt - z0_1.toInt).toNat < k13) (hw : (q1.2).toInt ≤ z0_1.toInt) (hw2 : z0_1.toInt ≤ te.toInt) (H : Heap) (locs : List Loc) (ls : Array Slot) (hP : va_P D classes [(h, .inr (7, [.ref a, .int z0_1, .int te, .int q1.2, .int tx])), (a, .inl (cI, 500, .inl z1_f))] H) (hD : va_D A [(h, .inr (7, [.ref a, .int z0_1, .int te, .int q1.2, .int tx])), (a, .inl (cI, 500, .inl z1_f))]) (hS : va_S A s.heap H locs) (hl : lv_has ls 2 [(1, .int q1.1), (0, .ref h)]) (hF : F_Text_readWord tb te tf = F_Text_readWord_L13 te q1 k13 z0_1 z1_f), W p l e (headSpec w_Text_readWord ({ frames := 1, cells := 0, slots := 0, locals := 20 })).room s m (List.toArray [.ref h]) below meth c H locs 0 0 (MQ below (va_Qi (fun (r : Int32) (u : Int32 × Int32 × Int32 × (Nat → Int32)) => (r, u) = F_Text_readWord tb te tf ∧ ((TextOk u.1 te u.2.1 u.2.2.1) ∧ (r = 0 ∨ r = 1))) (fun u => zB D classes (TY cI cJ cZ cW cT) A [(h, .inr (7, [.ref a, .int u.1, .int te, .int u.2.1, .int u.2.2.1])), (a, .inl (cI, 500, .inl u.2.2.2))]) A) (List.toArray [.ref h]) s 0 0 A) (F0 m 13 ls []) := by
    intro k13
    induction k13 with
    | zero => intro z0_1 z1_f hk; exact absurd hk (Nat.not_lt_zero _)
    | succ k13 ih =>
      intro z0_1 z1_f hk hw hw2 H locs ls hP hD hS hl hF
      have hF := hF.trans (F_Text_readWord_L13_s te q1 k13 z0_1 z1_f)
      refine lv_aload_n hx hb d_Text_readWord_13 rfl (lv_at hl 1 rfl) ?_
      refine va_get (D := D) (v := .int z0_1) (C := "ColonMachine$Text") (T := T_Text) (N := 5) hx hb hT i_Text hown hK hP 0 rfl rfl 1 (by decide) (hT _ fl_Text_15) (fun _ h9 => h9) rfl d_Text_readWord_14 ?_
      refine lv_aload_n hx hb d_Text_readWord_17 rfl (lv_at hl 1 rfl) ?_
      refine va_get (D := D) (v := .int te) (C := "ColonMachine$Text") (T := T_Text) (N := 5) hx hb hT i_Text hown hK hP 0 rfl rfl 2 (by decide) (hT _ fl_Text_19) (fun _ h9 => h9) rfl d_Text_readWord_18 ?_
      refine lv_icmp_ge (tgt := 72) hx hb d_Text_readWord_21 (by decide) (fun c2 => ?_) (fun c2 => ?_)
      · have hF := hF.trans (if_pos c2)
        refine lv_aload_n hx hb d_Text_readWord_72 rfl (lv_at hl 1 rfl) ?_
        refine lv_aload_n hx hb d_Text_readWord_73 rfl (lv_at hl 1 rfl) ?_
        refine va_get (D := D) (v := .int z0_1) (C := "ColonMachine$Text") (T := T_Text) (N := 5) hx hb hT i_Text hown hK hP 0 rfl rfl 1 (by decide) (hT _ fl_Text_15) (fun _ h9 => h9) rfl d_Text_readWord_74 ?_
        refine va_put (D := D) (v := .int z0_1) (ty := .int) (C := "ColonMachine$Text") (T := T_Text) (N := 5) hx hb hT i_Text t_Text tk_Text n_Text hown hK hP hD hS 0 rfl rfl 4 (by decide) (hT _ fl_Text_25) (fun _ h9 => h9) rfl (by decide +kernel) rfl rfl (Nat.le_of_ble_eq_true rfl) d_Text_readWord_77 (fun H locs hP hD hS => ?_)
        have hP : va_P D classes [(h, .inr (7, [.ref a, .int z0_1, .int te, .int q1.2, .int z0_1])), (a, .inl (cI, 500, .inl z1_f))] H := hP
        have hD : va_D A [(h, .inr (7, [.ref a, .int z0_1, .int te, .int q1.2, .int z0_1])), (a, .inl (cI, 500, .inl z1_f))] := hD
        refine lv_aload_n hx hb d_Text_readWord_80 rfl (lv_at hl 1 rfl) ?_
        refine va_get (D := D) (v := .int z0_1) (C := "ColonMachine$Text") (T := T_Text) (N := 5) hx hb hT i_Text hown hK hP 0 rfl rfl 1 (by decide) (hT _ fl_Text_15) (fun _ h9 => h9) rfl d_Text_readWord_81 ?_
        refine lv_aload_n hx hb d_Text_readWord_84 rfl (lv_at hl 1 rfl) ?_
        refine va_get (D := D) (v := .int te) (C := "ColonMachine$Text") (T := T_Text) (N := 5) hx hb hT i_Text hown hK hP 0 rfl rfl 2 (by decide) (hT _ fl_Text_19) (fun _ h9 => h9) rfl d_Text_readWord_85 ?_
        refine lv_icmp_ge (tgt := 101) hx hb d_Text_readWord_88 (by decide) (fun c3 => ?_) (fun c3 => ?_)
        · refine lv_iload_n hx hb d_Text_readWord_101 rfl (lv_at hl 0 rfl) ?_
          exact W.zret (v := q1.1) hx hb hr (z_nb k1.2.2) (fun t ht hW => ⟨⟨_, _, rfl, ⟨hF.symm, ⟨(by have := ti_lo z0_1; have := ti_hi z0_1; have := ti_lo te; have := ti_hi te; have := ti_lo tb; have := ti_hi tb; have := ti_lo tw; have := ti_hi tw; have := ti_lo tx; have := ti_hi tx; have t0 : Int32.toInt 0 = 0 := rfl; have t1 : Int32.toInt 1 = 1 := rfl; (try simp only [true_or, or_true, true_and, and_true, z_tn, CellsOk, CallsOk, TextOk, MemOk, OutOk, Int32.lt_iff_toInt_lt, Int32.le_iff_toInt_le, ← Int32.toInt_inj, Int32.toInt_add, Int32.toInt_sub, Int32.toInt_mul, Int32.toInt_neg, zbm, zbm', t0, t1] at c2 hi hw hw2 k1 ⊢) <;> omega), k1.2.2⟩⟩, ⟨by rw [ht]; exact hP, va_K.moved hW.alike hK, hD⟩⟩, hS.F ht⟩) hS.2.2 d_Text_readWord_102
        · exact absurd c2 c3
      · have hF := hF.trans (if_neg c2)
        refine lv_aload_n hx hb d_Text_readWord_24 rfl (lv_at hl 1 rfl) ?_
        refine va_get (D := D) (v := .ref a) (C := "ColonMachine$Text") (T := T_Text) (N := 5) hx hb hT i_Text hown hK hP 0 rfl rfl 0 (by decide) (hT _ fl_Text_11) (fun _ h9 => h9) rfl d_Text_readWord_25 ?_
        refine lv_aload_n hx hb d_Text_readWord_28 rfl (lv_at hl 1 rfl) ?_
        refine va_get (D := D) (v := .int z0_1) (C := "ColonMachine$Text") (T := T_Text) (N := 5) hx hb hT i_Text hown hK hP 0 rfl rfl 1 (by decide) (hT _ fl_Text_15) (fun _ h9 => h9) rfl d_Text_readWord_29 ?_
        refine va_iald hx hb hK hP 1 0 rfl rfl (by have := ti_lo z0_1; have := ti_hi z0_1; have := ti_lo tb; have := ti_hi tb; have := ti_lo te; have := ti_hi te; have := ti_lo tw; have := ti_hi tw; have := ti_lo tx; have := ti_hi tx; have t500 : Int32.toInt 500 = 500 := rfl; have t0 : Int32.toInt 0 = 0 := rfl; have t1 : Int32.toInt 1 = 1 := rfl; rw [vp_in_iff]; (try simp only [true_or, or_true, true_and, and_true, z_tn, CellsOk, CallsOk, TextOk, MemOk, OutOk, Int32.lt_iff_toInt_lt, Int32.le_iff_toInt_le, ← Int32.toInt_inj, Int32.toInt_add, Int32.toInt_sub, Int32.toInt_mul, Int32.toInt_neg, zbm, zbm', t500, t0, t1] at c2 hi hw hw2 k1 ⊢) <;> omega) d_Text_readWord_32 ?_
        refine lv_bipush (v := 32) hx hb d_Text_readWord_33 (by decide) ?_
        refine lv_icmp_le (tgt := 72) hx hb d_Text_readWord_35 (by decide) (fun c4 => ?_) (fun c4 => ?_)
        · have hF := hF.trans (if_pos c4)
          refine lv_aload_n hx hb d_Text_readWord_72 rfl (lv_at hl 1 rfl) ?_
          refine lv_aload_n hx hb d_Text_readWord_73 rfl (lv_at hl 1 rfl) ?_
          refine va_get (D := D) (v := .int z0_1) (C := "ColonMachine$Text") (T := T_Text) (N := 5) hx hb hT i_Text hown hK hP 0 rfl rfl 1 (by decide) (hT _ fl_Text_15) (fun _ h9 => h9) rfl d_Text_readWord_74 ?_
          refine va_put (D := D) (v := .int z0_1) (ty := .int) (C := "ColonMachine$Text") (T := T_Text) (N := 5) hx hb hT i_Text t_Text tk_Text n_Text hown hK hP hD hS 0 rfl rfl 4 (by decide) (hT _ fl_Text_25) (fun _ h9 => h9) rfl (by decide +kernel) rfl rfl (Nat.le_of_ble_eq_true rfl) d_Text_readWord_77 (fun H locs hP hD hS => ?_)
          have hP : va_P D classes [(h, .inr (7, [.ref a, .int z0_1, .int te, .int q1.2, .int z0_1])), (a, .inl (cI, 500, .inl z1_f))] H := hP
          have hD : va_D A [(h, .inr (7, [.ref a, .int z0_1, .int te, .int q1.2, .int z0_1])), (a, .inl (cI, 500, .inl z1_f))] := hD
          refine lv_aload_n hx hb d_Text_readWord_80 rfl (lv_at hl 1 rfl) ?_
          refine va_get (D := D) (v := .int z0_1) (C := "ColonMachine$Text") (T := T_Text) (N := 5) hx hb hT i_Text hown hK hP 0 rfl rfl 1 (by decide) (hT _ fl_Text_15) (fun _ h9 => h9) rfl d_Text_readWord_81 ?_
          refine lv_aload_n hx hb d_Text_readWord_84 rfl (lv_at hl 1 rfl) ?_
          refine va_get (D := D) (v := .int te) (C := "ColonMachine$Text") (T := T_Text) (N := 5) hx hb hT i_Text hown hK hP 0 rfl rfl 2 (by decide) (hT _ fl_Text_19) (fun _ h9 => h9) rfl d_Text_readWord_85 ?_
          refine lv_icmp_ge (tgt := 101) hx hb d_Text_readWord_88 (by decide) (fun c5 => ?_) (fun c5 => ?_)
          · exact absurd c5 c2
          · refine lv_aload_n hx hb d_Text_readWord_91 rfl (lv_at hl 1 rfl) ?_
            refine lv_dup hx hb d_Text_readWord_92 rfl ?_
            refine va_get (D := D) (v := .int z0_1) (C := "ColonMachine$Text") (T := T_Text) (N := 5) hx hb hT i_Text hown hK hP 0 rfl rfl 1 (by decide) (hT _ fl_Text_15) (fun _ h9 => h9) rfl d_Text_readWord_93 ?_
            refine lv_iconst (v := 1) hx hb d_Text_readWord_96 (by decide) ?_
            refine lv_iadd hx hb d_Text_readWord_97 ?_
            refine va_put (D := D) (v := .int (z0_1 + 1)) (ty := .int) (C := "ColonMachine$Text") (T := T_Text) (N := 5) hx hb hT i_Text t_Text tk_Text n_Text hown hK hP hD hS 0 rfl rfl 1 (by decide) (hT _ fl_Text_15) (fun _ h9 => h9) rfl (by decide +kernel) rfl rfl (Nat.le_of_ble_eq_true rfl) d_Text_readWord_98 (fun H locs hP hD hS => ?_)
            have hP : va_P D classes [(h, .inr (7, [.ref a, .int (z0_1 + 1), .int te, .int q1.2, .int z0_1])), (a, .inl (cI, 500, .inl z1_f))] H := hP
            have hD : va_D A [(h, .inr (7, [.ref a, .int (z0_1 + 1), .int te, .int q1.2, .int z0_1])), (a, .inl (cI, 500, .inl z1_f))] := hD
            refine lv_iload_n hx hb d_Text_readWord_101 rfl (lv_at hl 0 rfl) ?_
            exact W.zret (v := q1.1) hx hb hr (z_nb k1.2.2) (fun t ht hW => ⟨⟨_, _, rfl, ⟨hF.symm, ⟨(by have := ti_lo z0_1; have := ti_hi z0_1; have := ti_lo te; have := ti_hi te; have := ti_lo tb; have := ti_hi tb; have := ti_lo tw; have := ti_hi tw; have := ti_lo tx; have := ti_hi tx; have t1 : Int32.toInt 1 = 1 := rfl; have t32 : Int32.toInt 32 = 32 := rfl; have t0 : Int32.toInt 0 = 0 := rfl; (try simp only [true_or, or_true, true_and, and_true, z_tn, CellsOk, CallsOk, TextOk, MemOk, OutOk, Int32.lt_iff_toInt_lt, Int32.le_iff_toInt_le, ← Int32.toInt_inj, Int32.toInt_add, Int32.toInt_sub, Int32.toInt_mul, Int32.toInt_neg, zbm, zbm', t1, t32, t0] at c2 c4 hi hw hw2 k1 ⊢) <;> omega), k1.2.2⟩⟩, ⟨by rw [ht]; exact hP, va_K.moved hW.alike hK, hD⟩⟩, hS.F ht⟩) hS.2.2 d_Text_readWord_102
        · have hF := hF.trans (if_neg c4)
          refine lv_aload_n hx hb d_Text_readWord_38 rfl (lv_at hl 1 rfl) ?_
          refine va_get (D := D) (v := .ref a) (C := "ColonMachine$Text") (T := T_Text) (N := 5) hx hb hT i_Text hown hK hP 0 rfl rfl 0 (by decide) (hT _ fl_Text_11) (fun _ h9 => h9) rfl d_Text_readWord_39 ?_
          refine lv_aload_n hx hb d_Text_readWord_42 rfl (lv_at hl 1 rfl) ?_
          refine va_get (D := D) (v := .int z0_1) (C := "ColonMachine$Text") (T := T_Text) (N := 5) hx hb hT i_Text hown hK hP 0 rfl rfl 1 (by decide) (hT _ fl_Text_15) (fun _ h9 => h9) rfl d_Text_readWord_43 ?_
          refine lv_aload_n hx hb d_Text_readWord_46 rfl (lv_at hl 1 rfl) ?_
          refine va_get (D := D) (v := .ref a) (C := "ColonMachine$Text") (T := T_Text) (N := 5) hx hb hT i_Text hown hK hP 0 rfl rfl 0 (by decide) (hT _ fl_Text_11) (fun _ h9 => h9) rfl d_Text_readWord_47 ?_
          refine lv_aload_n hx hb d_Text_readWord_50 rfl (lv_at hl 1 rfl) ?_
          refine va_get (D := D) (v := .int z0_1) (C := "ColonMachine$Text") (T := T_Text) (N := 5) hx hb hT i_Text hown hK hP 0 rfl rfl 1 (by decide) (hT _ fl_Text_15) (fun _ h9 => h9) rfl d_Text_readWord_51 ?_
          refine va_iald hx hb hK hP 1 0 rfl rfl (by have := ti_lo z0_1; have := ti_hi z0_1; have := ti_lo tb; have := ti_hi tb; have := ti_lo te; have := ti_hi te; have := ti_lo tw; have := ti_hi tw; have := ti_lo tx; have := ti_hi tx; have t500 : Int32.toInt 500 = 500 := rfl; have t32 : Int32.toInt 32 = 32 := rfl; have t0 : Int32.toInt 0 = 0 := rfl; have t1 : Int32.toInt 1 = 1 := rfl; rw [vp_in_iff]; (try simp only [true_or, or_true, true_and, and_true, z_tn, CellsOk, CallsOk, TextOk, MemOk, OutOk, Int32.lt_iff_toInt_lt, Int32.le_iff_toInt_le, ← Int32.toInt_inj, Int32.toInt_add, Int32.toInt_sub, Int32.toInt_mul, Int32.toInt_neg, zbm, zbm', t500, t32, t0, t1] at c2 c4 hi hw hw2 k1 ⊢) <;> omega) d_Text_readWord_54 ?_
          refine kN_pi (wr := [(h, .inr (7, [.ref a, .int z0_1, .int te, .int q1.2, .int tx])), (a, .inl (cI, 500, .inl z1_f))]) (zS (wc := []) (As := [.int (z1_f z0_1.toNatClampNeg)]) (rest := [.int z0_1, .ref a]) (st0 := [.int (z1_f z0_1.toNatClampNeg), .int z0_1, .ref a]) ⟨hx, hb, hml, hown, hT⟩ (c_Text_lower l D cI cJ cZ cW cT H.size (z1_f z0_1.toNatClampNeg)) (va_cwS 1 hT (tbS ml_Text_45 sm_Text_lower in_Text co_Text_lower) rfl rfl rfl vs_Text_lower ⟨Nat.le_of_ble_eq_true rfl, Nat.le_of_ble_eq_true rfl⟩) hK hE hP hD hS hA [] rfl rfl rfl hl.1 rfl (Nat.le_of_ble_eq_true rfl) d_Text_readWord_55 ⟨Nat.le_of_ble_eq_true rfl, Nat.le_of_ble_eq_true rfl⟩) hP hD hS hA [] [0, 1] rfl rfl rfl (by decide) [0, 1] rfl rfl (fun q6 H locs e6 k6 hP hD hS => ?_)
          have hP : va_P D classes [(h, .inr (7, [.ref a, .int z0_1, .int te, .int q1.2, .int tx])), (a, .inl (cI, 500, .inl z1_f))] H := hP
          have hD : va_D A [(h, .inr (7, [.ref a, .int z0_1, .int te, .int q1.2, .int tx])), (a, .inl (cI, 500, .inl z1_f))] := hD
          have hF := hF.trans (bd_e e6)
          refine va_iast hx hb hK hP hD hS 1 0 rfl rfl (by have := ti_lo z0_1; have := ti_hi z0_1; have := ti_lo tb; have := ti_hi tb; have := ti_lo te; have := ti_hi te; have := ti_lo tw; have := ti_hi tw; have := ti_lo tx; have := ti_hi tx; have := ti_lo q6; have := ti_hi q6; have t500 : Int32.toInt 500 = 500 := rfl; have t32 : Int32.toInt 32 = 32 := rfl; have t0 : Int32.toInt 0 = 0 := rfl; have t1 : Int32.toInt 1 = 1 := rfl; rw [vp_in_iff]; (try simp only [true_or, or_true, true_and, and_true, z_tn, CellsOk, CallsOk, TextOk, MemOk, OutOk, Int32.lt_iff_toInt_lt, Int32.le_iff_toInt_le, ← Int32.toInt_inj, Int32.toInt_add, Int32.toInt_sub, Int32.toInt_mul, Int32.toInt_neg, zbm, zbm', t500, t32, t0, t1] at c2 c4 hi hw hw2 k1 ⊢) <;> omega) d_Text_readWord_58 (fun H locs hP hD hS => ?_)
          have hP : va_P D classes [(h, .inr (7, [.ref a, .int z0_1, .int te, .int q1.2, .int tx])), (a, .inl (cI, 500, .inl (upd z1_f z0_1.toNatClampNeg q6)))] H := hP
          have hD : va_D A [(h, .inr (7, [.ref a, .int z0_1, .int te, .int q1.2, .int tx])), (a, .inl (cI, 500, .inl (upd z1_f z0_1.toNatClampNeg q6)))] := hD
          refine lv_aload_n hx hb d_Text_readWord_59 rfl (lv_at hl 1 rfl) ?_
          refine lv_dup hx hb d_Text_readWord_60 rfl ?_
          refine va_get (D := D) (v := .int z0_1) (C := "ColonMachine$Text") (T := T_Text) (N := 5) hx hb hT i_Text hown hK hP 0 rfl rfl 1 (by decide) (hT _ fl_Text_15) (fun _ h9 => h9) rfl d_Text_readWord_61 ?_
          refine lv_iconst (v := 1) hx hb d_Text_readWord_64 (by decide) ?_
          refine lv_iadd hx hb d_Text_readWord_65 ?_
          refine va_put (D := D) (v := .int (z0_1 + 1)) (ty := .int) (C := "ColonMachine$Text") (T := T_Text) (N := 5) hx hb hT i_Text t_Text tk_Text n_Text hown hK hP hD hS 0 rfl rfl 1 (by decide) (hT _ fl_Text_15) (fun _ h9 => h9) rfl (by decide +kernel) rfl rfl (Nat.le_of_ble_eq_true rfl) d_Text_readWord_66 (fun H locs hP hD hS => ?_)
          have hP : va_P D classes [(h, .inr (7, [.ref a, .int (z0_1 + 1), .int te, .int q1.2, .int tx])), (a, .inl (cI, 500, .inl (upd z1_f z0_1.toNatClampNeg q6)))] H := hP
          have hD : va_D A [(h, .inr (7, [.ref a, .int (z0_1 + 1), .int te, .int q1.2, .int tx])), (a, .inl (cI, 500, .inl (upd z1_f z0_1.toNatClampNeg q6)))] := hD
          refine lv_goto (tgt := 13) hx hb d_Text_readWord_69 (by decide) ?_
          exact ih (z0_1 + 1) (upd z1_f z0_1.toNatClampNeg q6) (by have := ti_lo z0_1; have := ti_hi z0_1; have := ti_lo tb; have := ti_hi tb; have := ti_lo te; have := ti_hi te; have := ti_lo tw; have := ti_hi tw; have := ti_lo tx; have := ti_hi tx; have := ti_lo q6; have := ti_hi q6; have t1 : Int32.toInt 1 = 1 := rfl; have t32 : Int32.toInt 32 = 32 := rfl; have t0 : Int32.toInt 0 = 0 := rfl; (try simp only [true_or, or_true, true_and, and_true, z_tn, CellsOk, CallsOk, TextOk, MemOk, OutOk, Int32.lt_iff_toInt_lt, Int32.le_iff_toInt_le, ← Int32.toInt_inj, Int32.toInt_add, Int32.toInt_sub, Int32.toInt_mul, Int32.toInt_neg, zbm, zbm', t1, t32, t0] at c2 c4 hi hw hw2 k1 hk ⊢) <;> omega) (by have := ti_lo z0_1; have := ti_hi z0_1; have := ti_lo tb; have := ti_hi tb; have := ti_lo te; have := ti_hi te; have := ti_lo tw; have := ti_hi tw; have := ti_lo tx; have := ti_hi tx; have := ti_lo q6; have := ti_hi q6; have t1 : Int32.toInt 1 = 1 := rfl; have t32 : Int32.toInt 32 = 32 := rfl; have t0 : Int32.toInt 0 = 0 := rfl; (try simp only [true_or, or_true, true_and, and_true, z_tn, CellsOk, CallsOk, TextOk, MemOk, OutOk, Int32.lt_iff_toInt_lt, Int32.le_iff_toInt_le, ← Int32.toInt_inj, Int32.toInt_add, Int32.toInt_sub, Int32.toInt_mul, Int32.toInt_neg, zbm, zbm', t1, t32, t0] at c2 c4 hi hw hw2 k1 ⊢) <;> omega) (by have := ti_lo z0_1; have := ti_hi z0_1; have := ti_lo tb; have := ti_hi tb; have := ti_lo te; have := ti_hi te; have := ti_lo tw; have := ti_hi tw; have := ti_lo tx; have := ti_hi tx; have := ti_lo q6; have := ti_hi q6; have t1 : Int32.toInt 1 = 1 := rfl; have t32 : Int32.toInt 32 = 32 := rfl; have t0 : Int32.toInt 0 = 0 := rfl; (try simp only [true_or, or_true, true_and, and_true, z_tn, CellsOk, CallsOk, TextOk, MemOk, OutOk, Int32.lt_iff_toInt_lt, Int32.le_iff_toInt_le, ← Int32.toInt_inj, Int32.toInt_add, Int32.toInt_sub, Int32.toInt_mul, Int32.toInt_neg, zbm, zbm', t1, t32, t0] at c2 c4 hi hw hw2 k1 ⊢) <;> omega) _ _ _ hP hD hS (lv_sub hl [0, 1] rfl) hF
  exact loop (((te.toInt - q1.2.toInt).toNat) + 1) q1.2 tf (Nat.lt_succ_self _) (by have := ti_lo tb; have := ti_hi tb; have := ti_lo te; have := ti_hi te; have := ti_lo tw; have := ti_hi tw; have := ti_lo tx; have := ti_hi tx; have t0 : Int32.toInt 0 = 0 := rfl; have t1 : Int32.toInt 1 = 1 := rfl; (try simp only [true_or, or_true, true_and, and_true, z_tn, CellsOk, CallsOk, TextOk, MemOk, OutOk, Int32.lt_iff_toInt_lt, Int32.le_iff_toInt_le, ← Int32.toInt_inj, Int32.toInt_add, Int32.toInt_sub, Int32.toInt_mul, Int32.toInt_neg, zbm, zbm', t0, t1] at hi k1 ⊢) <;> omega) (by have := ti_lo tb; have := ti_hi tb; have := ti_lo te; have := ti_hi te; have := ti_lo tw; have := ti_hi tw; have := ti_lo tx; have := ti_hi tx; have t0 : Int32.toInt 0 = 0 := rfl; have t1 : Int32.toInt 1 = 1 := rfl; (try simp only [true_or, or_true, true_and, and_true, z_tn, CellsOk, CallsOk, TextOk, MemOk, OutOk, Int32.lt_iff_toInt_lt, Int32.le_iff_toInt_le, ← Int32.toInt_inj, Int32.toInt_add, Int32.toInt_sub, Int32.toInt_mul, Int32.toInt_neg, zbm, zbm', t0, t1] at hi k1 ⊢) <;> omega) _ _ _ hP hD hS (lv_sub hl [0, 1] rfl) hF
def F_Text_name_L23 (tx : Int32) (tf : Nat → Int32) : Nat → (Int32) → (Int64) → Int64
  | 0, _, _ => 0
  | k23 + 1, v3, v1 => if tx ≤ v3 then v1 else (F_Text_name_L23 tx tf k23 (v3 + 1) ((v1 <<< ((8 : Int32).toInt64 &&& 63)) ||| ((tf v3.toNatClampNeg).toInt64)))
theorem F_Text_name_L23_s (tx : Int32) (tf : Nat → Int32) (k23 : Nat) (v3 : Int32) (v1 : Int64) : F_Text_name_L23 tx tf (k23 + 1) v3 v1 = if tx ≤ v3 then v1 else (F_Text_name_L23 tx tf k23 (v3 + 1) ((v1 <<< ((8 : Int32).toInt64 &&& 63)) ||| ((tf v3.toNatClampNeg).toInt64))) := rfl
/-- the picture of ColonMachine$Text.name -/
def F_Text_name (tw : Int32) (tx : Int32) (tf : Nat → Int32) : Int64 := if (tx - tw) ≤ 8 then (F_Text_name_L23 tx tf (((tx.toInt - tw.toInt).toNat) + 1) tw 0) else 0
theorem F_Text_name_e (tw : Int32) (tx : Int32) (tf : Nat → Int32) : F_Text_name tw tx tf = if (tx - tw) ≤ 8 then (F_Text_name_L23 tx tf (((tx.toInt - tw.toInt).toNat) + 1) tw 0) else 0 := rfl
set_option maxHeartbeats 4000000 in
set_option maxRecDepth 100000 in
theorem c_Text_name (l : Launch) (D : va_G) (cI cJ cZ cW cT : ClassId) (sz : Nat) (h : Nat) (a : Nat) (tb : Int32) (te : Int32) (tw : Int32) (tx : Int32) (tf : Nat → Int32) (hi : TextOk tb te tw tx) : Met l y_Text_name w_Text_name ({ frames := 0, cells := 0, slots := 0, locals := 0 }) (va_Pc [.ref h] (zP D classes (TY cI cJ cZ cW cT) [(h, .inr (7, [.ref a, .int tb, .int te, .int tw, .int tx])), (a, .inl (cI, 500, .inl tf))] sz)) (va_Ql (fun (r : Int64) (_ : Unit) => r = F_Text_name tw tx tf ∧ (True)) (fun _ => zB D classes (TY cI cJ cZ cW cT) (va_A [(h, .inr (7, [.ref a, .int tb, .int te, .int tw, .int tx])), (a, .inl (cI, 500, .inl tf))] sz) [(h, .inr (7, [.ref a, .int tb, .int te, .int tw, .int tx])), (a, .inl (cI, 500, .inl tf))]) (va_A [(h, .inr (7, [.ref a, .int tb, .int te, .int tw, .int tx])), (a, .inl (cI, 500, .inl tf))] sz)) 0 0 (va_A [(h, .inr (7, [.ref a, .int tb, .int te, .int tw, .int tx])), (a, .inl (cI, 500, .inl tf))] sz) := by
  refine Met.ofW (cc := b_Text_name) (maxL := 4) (ret := (some .long)) (by decide) rfl ?_
  intro p e s m args below meth c s₁ B hml hv
  obtain ⟨rfl, hsz, hP, hK, hD0, hE⟩ := hv
  have hx := B.exec
  have hb := B.bytes
  have hr := B.returns
  have hts := atoms_spec (ws := w_Text_name) B.pre
  have hT : ∀ w ∈ TB, w.before _ s = true := fun w h => hts w (List.mem_cons_of_mem _ h)
  have hown : s.vm.findClass "ColonMachine$Text" = some m.cls := findClass_of_methodNamed B.named
  have hlocks := B.notSynchronized
  subst hsz
  have hD := hD0.self (sz := s.heap.size)
  generalize hAe : va_A [(h, .inr (7, [.ref a, .int tb, .int te, .int tw, .int tx])), (a, .inl (cI, 500, .inl tf))] s.heap.size = A at hD hE ⊢
  have hA : ∀ q : Nat, s.heap.size ≤ q → A q := fun q h => by rw [← hAe]; exact Or.inr h
  have hS : va_S A s.heap s.heap [] := va_S.rf
  have hl := lv_entry [.ref h] (n := 4) (Nat.le_of_ble_eq_true rfl)
  rw [lg_entry_eq]
  generalize (lg_sl [.ref h] ++ List.replicate (4 - (lg_sl [.ref h]).length) Slot.unset).toArray = ls at hl ⊢
  have hl : lv_has ls 4 [(0, .ref h)] := hl
  have hF := F_Text_name_e tw tx tf
  refine lv_lconst (v := 0) hx hb d_Text_name_0 (by decide) ?_
  refine lv_lstore_n (lv' := [(1, .long 0), (0, .ref h)]) hx hb d_Text_name_1 rfl hl (by decide) rfl (fun ls hl => ?_)
  refine lv_aload_n hx hb d_Text_name_2 rfl (lv_at hl 1 rfl) ?_
  refine va_get (D := D) (v := .int tx) (C := "ColonMachine$Text") (T := T_Text) (N := 5) hx hb hT i_Text hown hK hP 0 rfl rfl 4 (by decide) (hT _ fl_Text_25) (fun _ h9 => h9) rfl d_Text_name_3 ?_
  refine lv_aload_n hx hb d_Text_name_6 rfl (lv_at hl 1 rfl) ?_
  refine va_get (D := D) (v := .int tw) (C := "ColonMachine$Text") (T := T_Text) (N := 5) hx hb hT i_Text hown hK hP 0 rfl rfl 3 (by decide) (hT _ fl_Text_22) (fun _ h9 => h9) rfl d_Text_name_7 ?_
  refine lv_isub hx hb d_Text_name_10 ?_
  refine lv_bipush (v := 8) hx hb d_Text_name_11 (by decide) ?_
  refine lv_icmp_le (tgt := 18) hx hb d_Text_name_13 (by decide) (fun c1 => ?_) (fun c1 => ?_)
  · have hF := hF.trans (if_pos c1)
    refine lv_aload_n hx hb d_Text_name_18 rfl (lv_at hl 1 rfl) ?_
    refine va_get (D := D) (v := .int tw) (C := "ColonMachine$Text") (T := T_Text) (N := 5) hx hb hT i_Text hown hK hP 0 rfl rfl 3 (by decide) (hT _ fl_Text_22) (fun _ h9 => h9) rfl d_Text_name_19 ?_
    refine lv_istore_n (lv' := [(3, .int tw), (1, .long 0), (0, .ref h)]) hx hb d_Text_name_22 rfl hl (by decide) rfl (fun ls hl => ?_)
    have loop : ∀ (k23 : Nat) (v3 : Int32) (v1 : Int64) (hk : (tx.toInt - v3.toInt).toNat < k23) (hw : tw.toInt ≤ v3.toInt) (H : Heap) (locs : List Loc) (ls : Array Slot) (hP : va_P D classes [(h, .inr (7, [.ref a, .int tb, .int te, .int tw, .int tx])), (a, .inl (cI, 500, .inl tf))] H) (hD : va_D A [(h, .inr (7, [.ref a, .int tb, .int te, .int tw, .int tx])), (a, .inl (cI, 500, .inl tf))]) (hS : va_S A s.heap H locs) (hl : lv_has ls 4 [(3, .int v3), (1, .long v1), (0, .ref h)]) (hF : F_Text_name tw tx tf = F_Text_name_L23 tx tf k23 v3 v1), W p l e (headSpec w_Text_name ({ frames := 0, cells := 0, slots := 0, locals := 0 })).room s m (List.toArray [.ref h]) below meth c H locs 0 0 (MQ below (va_Ql (fun (r : Int64) (_ : Unit) => r = F_Text_name tw tx tf ∧ (True)) (fun _ => zB D classes (TY cI cJ cZ cW cT) A [(h, .inr (7, [.ref a, .int tb, .int te, .int tw, .int tx])), (a, .inl (cI, 500, .inl tf))]) A) (List.toArray [.ref h]) s 0 0 A) (F0 m 23 ls []) := by
      intro k23
      induction k23 with
      | zero => intro v3 v1 hk; exact absurd hk (Nat.not_lt_zero _)
      | succ k23 ih =>
        intro v3 v1 hk hw H locs ls hP hD hS hl hF
        have hF := hF.trans (F_Text_name_L23_s tx tf k23 v3 v1)
        refine lv_iload_n hx hb d_Text_name_23 rfl (lv_at hl 0 rfl) ?_
        refine lv_aload_n hx hb d_Text_name_24 rfl (lv_at hl 2 rfl) ?_
        refine va_get (D := D) (v := .int tx) (C := "ColonMachine$Text") (T := T_Text) (N := 5) hx hb hT i_Text hown hK hP 0 rfl rfl 4 (by decide) (hT _ fl_Text_25) (fun _ h9 => h9) rfl d_Text_name_25 ?_
        refine lv_icmp_ge (tgt := 50) hx hb d_Text_name_28 (by decide) (fun c2 => ?_) (fun c2 => ?_)
        · have hF := hF.trans (if_pos c2)
          refine lv_lload_n hx hb d_Text_name_50 rfl (lv_at hl 1 rfl) ?_
          exact W.lret (v := v1) hx hb hr (fun t ht hW => ⟨⟨_, (), rfl, ⟨hF.symm, trivial⟩, ⟨by rw [ht]; exact hP, va_K.moved hW.alike hK, hD⟩⟩, hS.F ht⟩) hS.2.2 d_Text_name_51
        · have hF := hF.trans (if_neg c2)
          refine lv_lload_n hx hb d_Text_name_31 rfl (lv_at hl 1 rfl) ?_
          refine lv_bipush (v := 8) hx hb d_Text_name_32 (by decide) ?_
          refine lv_lshl (v := v1 <<< ((8 : Int32).toInt64 &&& 63)) hx hb d_Text_name_34 rfl ?_
          refine lv_aload_n hx hb d_Text_name_35 rfl (lv_at hl 2 rfl) ?_
          refine va_get (D := D) (v := .ref a) (C := "ColonMachine$Text") (T := T_Text) (N := 5) hx hb hT i_Text hown hK hP 0 rfl rfl 0 (by decide) (hT _ fl_Text_11) (fun _ h9 => h9) rfl d_Text_name_36 ?_
          refine lv_iload_n hx hb d_Text_name_39 rfl (lv_at hl 0 rfl) ?_
          refine va_iald hx hb hK hP 1 0 rfl rfl (by have := ti_lo v3; have := ti_hi v3; have := ti_lo tb; have := ti_hi tb; have := ti_lo te; have := ti_hi te; have := ti_lo tw; have := ti_hi tw; have := ti_lo tx; have := ti_hi tx; have t500 : Int32.toInt 500 = 500 := rfl; have t8 : Int32.toInt 8 = 8 := rfl; rw [vp_in_iff]; (try simp only [true_or, or_true, true_and, and_true, z_tn, CellsOk, CallsOk, TextOk, MemOk, OutOk, Int32.lt_iff_toInt_lt, Int32.le_iff_toInt_le, ← Int32.toInt_inj, Int32.toInt_add, Int32.toInt_sub, Int32.toInt_mul, Int32.toInt_neg, zbm, zbm', t500, t8] at c1 c2 hi hw ⊢) <;> omega) d_Text_name_40 ?_
          refine lv_i2l (v := (tf v3.toNatClampNeg).toInt64) hx hb d_Text_name_41 rfl ?_
          refine lv_lor hx hb d_Text_name_42 ?_
          refine lv_lstore_n (lv' := [(1, .long ((v1 <<< ((8 : Int32).toInt64 &&& 63)) ||| ((tf v3.toNatClampNeg).toInt64))), (3, .int v3), (0, .ref h)]) hx hb d_Text_name_43 rfl hl (by decide) rfl (fun ls hl => ?_)
          refine lv_iinc (v := v3 + 1) (lv' := [(3, .int (v3 + 1)), (1, .long ((v1 <<< ((8 : Int32).toInt64 &&& 63)) ||| ((tf v3.toNatClampNeg).toInt64))), (0, .ref h)]) hx hb d_Text_name_44 hl (k := 1) rfl rfl (by decide) rfl (fun ls hl => ?_)
          refine lv_goto (tgt := 23) hx hb d_Text_name_47 (by decide) ?_
          exact ih (v3 + 1) ((v1 <<< ((8 : Int32).toInt64 &&& 63)) ||| ((tf v3.toNatClampNeg).toInt64)) (by have := ti_lo v3; have := ti_hi v3; have := ti_lo tb; have := ti_hi tb; have := ti_lo te; have := ti_hi te; have := ti_lo tw; have := ti_hi tw; have := ti_lo tx; have := ti_hi tx; have t1 : Int32.toInt 1 = 1 := rfl; have t8 : Int32.toInt 8 = 8 := rfl; (try simp only [true_or, or_true, true_and, and_true, z_tn, CellsOk, CallsOk, TextOk, MemOk, OutOk, Int32.lt_iff_toInt_lt, Int32.le_iff_toInt_le, ← Int32.toInt_inj, Int32.toInt_add, Int32.toInt_sub, Int32.toInt_mul, Int32.toInt_neg, zbm, zbm', t1, t8] at c1 c2 hi hw hk ⊢) <;> omega) (by have := ti_lo v3; have := ti_hi v3; have := ti_lo tb; have := ti_hi tb; have := ti_lo te; have := ti_hi te; have := ti_lo tw; have := ti_hi tw; have := ti_lo tx; have := ti_hi tx; have t1 : Int32.toInt 1 = 1 := rfl; have t8 : Int32.toInt 8 = 8 := rfl; (try simp only [true_or, or_true, true_and, and_true, z_tn, CellsOk, CallsOk, TextOk, MemOk, OutOk, Int32.lt_iff_toInt_lt, Int32.le_iff_toInt_le, ← Int32.toInt_inj, Int32.toInt_add, Int32.toInt_sub, Int32.toInt_mul, Int32.toInt_neg, zbm, zbm', t1, t8] at c1 c2 hi hw ⊢) <;> omega) _ _ _ hP hD hS (lv_sub hl [0, 1, 2] rfl) hF
    exact loop (((tx.toInt - tw.toInt).toNat) + 1) tw 0 (Nat.lt_succ_self _) (by have := ti_lo tb; have := ti_hi tb; have := ti_lo te; have := ti_hi te; have := ti_lo tw; have := ti_hi tw; have := ti_lo tx; have := ti_hi tx; have t8 : Int32.toInt 8 = 8 := rfl; (try simp only [true_or, or_true, true_and, and_true, z_tn, CellsOk, CallsOk, TextOk, MemOk, OutOk, Int32.lt_iff_toInt_lt, Int32.le_iff_toInt_le, ← Int32.toInt_inj, Int32.toInt_add, Int32.toInt_sub, Int32.toInt_mul, Int32.toInt_neg, zbm, zbm', t8] at c1 hi ⊢) <;> omega) _ _ _ hP hD hS (lv_sub hl [0, 1, 2] rfl) hF
  · have hF := hF.trans (if_neg c1)
    refine lv_lload_n hx hb d_Text_name_16 rfl (lv_at hl 0 rfl) ?_
    exact W.lret (v := 0) hx hb hr (fun t ht hW => ⟨⟨_, (), rfl, ⟨hF.symm, trivial⟩, ⟨by rw [ht]; exact hP, va_K.moved hW.alike hK, hD⟩⟩, hS.F ht⟩) hS.2.2 d_Text_name_17
/-- the picture of ColonMachine$Text.digitsBegin -/
def F_Text_digitsBegin (tw : Int32) (tx : Int32) (tf : Nat → Int32) : Int32 := if tx ≤ tw then tw else (if (tf tw.toNatClampNeg) = 45 then (tw + 1) else tw)
theorem F_Text_digitsBegin_e (tw : Int32) (tx : Int32) (tf : Nat → Int32) : F_Text_digitsBegin tw tx tf = if tx ≤ tw then tw else (if (tf tw.toNatClampNeg) = 45 then (tw + 1) else tw) := rfl
set_option maxHeartbeats 4000000 in
set_option maxRecDepth 100000 in
theorem c_Text_digitsBegin (l : Launch) (D : va_G) (cI cJ cZ cW cT : ClassId) (sz : Nat) (h : Nat) (a : Nat) (tb : Int32) (te : Int32) (tw : Int32) (tx : Int32) (tf : Nat → Int32) (hi : TextOk tb te tw tx) : Met l y_Text_digitsBegin w_Text_digitsBegin ({ frames := 0, cells := 0, slots := 0, locals := 0 }) (va_Pc [.ref h] (zP D classes (TY cI cJ cZ cW cT) [(h, .inr (7, [.ref a, .int tb, .int te, .int tw, .int tx])), (a, .inl (cI, 500, .inl tf))] sz)) (va_Qi (fun (r : Int32) (_ : Unit) => r = F_Text_digitsBegin tw tx tf ∧ ((tw.toInt ≤ r.toInt) ∧ (r.toInt ≤ tw.toInt + 1))) (fun _ => zB D classes (TY cI cJ cZ cW cT) (va_A [(h, .inr (7, [.ref a, .int tb, .int te, .int tw, .int tx])), (a, .inl (cI, 500, .inl tf))] sz) [(h, .inr (7, [.ref a, .int tb, .int te, .int tw, .int tx])), (a, .inl (cI, 500, .inl tf))]) (va_A [(h, .inr (7, [.ref a, .int tb, .int te, .int tw, .int tx])), (a, .inl (cI, 500, .inl tf))] sz)) 0 0 (va_A [(h, .inr (7, [.ref a, .int tb, .int te, .int tw, .int tx])), (a, .inl (cI, 500, .inl tf))] sz) := by
  refine Met.ofW (cc := b_Text_digitsBegin) (maxL := 2) (ret := (some .int)) (by decide) rfl ?_
  intro p e s m args below meth c s₁ B hml hv
  obtain ⟨rfl, hsz, hP, hK, hD0, hE⟩ := hv
  have hx := B.exec
  have hb := B.bytes
  have hr := B.returns
  have hts := atoms_spec (ws := w_Text_digitsBegin) B.pre
  have hT : ∀ w ∈ TB, w.before _ s = true := fun w h => hts w (List.mem_cons_of_mem _ h)
  have hown : s.vm.findClass "ColonMachine$Text" = some m.cls := findClass_of_methodNamed B.named
  have hlocks := B.notSynchronized
  subst hsz
  have hD := hD0.self (sz := s.heap.size)
  generalize hAe : va_A [(h, .inr (7, [.ref a, .int tb, .int te, .int tw, .int tx])), (a, .inl (cI, 500, .inl tf))] s.heap.size = A at hD hE ⊢
  have hA : ∀ q : Nat, s.heap.size ≤ q → A q := fun q h => by rw [← hAe]; exact Or.inr h
  have hS : va_S A s.heap s.heap [] := va_S.rf
  have hl := lv_entry [.ref h] (n := 2) (Nat.le_of_ble_eq_true rfl)
  rw [lg_entry_eq]
  generalize (lg_sl [.ref h] ++ List.replicate (2 - (lg_sl [.ref h]).length) Slot.unset).toArray = ls at hl ⊢
  have hl : lv_has ls 2 [(0, .ref h)] := hl
  have hF := F_Text_digitsBegin_e tw tx tf
  refine lv_aload_n hx hb d_Text_digitsBegin_0 rfl (lv_at hl 0 rfl) ?_
  refine va_get (D := D) (v := .int tw) (C := "ColonMachine$Text") (T := T_Text) (N := 5) hx hb hT i_Text hown hK hP 0 rfl rfl 3 (by decide) (hT _ fl_Text_22) (fun _ h9 => h9) rfl d_Text_digitsBegin_1 ?_
  refine lv_aload_n hx hb d_Text_digitsBegin_4 rfl (lv_at hl 0 rfl) ?_
  refine va_get (D := D) (v := .int tx) (C := "ColonMachine$Text") (T := T_Text) (N := 5) hx hb hT i_Text hown hK hP 0 rfl rfl 4 (by decide) (hT _ fl_Text_25) (fun _ h9 => h9) rfl d_Text_digitsBegin_5 ?_
  refine lv_icmp_ge (tgt := 29) hx hb d_Text_digitsBegin_8 (by decide) (fun c1 => ?_) (fun c1 => ?_)
  · have hF := hF.trans (if_pos c1)
    refine lv_iconst (v := 0) hx hb d_Text_digitsBegin_29 (by decide) ?_
    refine lv_istore_n (lv' := [(1, .int 0), (0, .ref h)]) hx hb d_Text_digitsBegin_30 rfl hl (by decide) rfl (fun ls hl => ?_)
    refine lv_iload_n hx hb d_Text_digitsBegin_31 rfl (lv_at hl 0 rfl) ?_
    refine lv_if_eq (tgt := 44) hx hb d_Text_digitsBegin_32 (by decide) (fun c2 => ?_) (fun c2 => ?_)
    · refine lv_aload_n hx hb d_Text_digitsBegin_44 rfl (lv_at hl 1 rfl) ?_
      refine va_get (D := D) (v := .int tw) (C := "ColonMachine$Text") (T := T_Text) (N := 5) hx hb hT i_Text hown hK hP 0 rfl rfl 3 (by decide) (hT _ fl_Text_22) (fun _ h9 => h9) rfl d_Text_digitsBegin_45 ?_
      exact W.iret (v := tw) hx hb hr (fun t ht hW => ⟨⟨_, (), rfl, ⟨hF.symm, ⟨(by have := ti_lo tb; have := ti_hi tb; have := ti_lo te; have := ti_hi te; have := ti_lo tw; have := ti_hi tw; have := ti_lo tx; have := ti_hi tx; (try simp only [true_or, or_true, true_and, and_true, z_tn, CellsOk, CallsOk, TextOk, MemOk, OutOk, Int32.lt_iff_toInt_lt, Int32.le_iff_toInt_le, ← Int32.toInt_inj, Int32.toInt_add, Int32.toInt_sub, Int32.toInt_mul, Int32.toInt_neg, zbm, zbm'] at c1 hi ⊢) <;> omega), (by have := ti_lo tb; have := ti_hi tb; have := ti_lo te; have := ti_hi te; have := ti_lo tw; have := ti_hi tw; have := ti_lo tx; have := ti_hi tx; have t1 : Int32.toInt 1 = 1 := rfl; (try simp only [true_or, or_true, true_and, and_true, z_tn, CellsOk, CallsOk, TextOk, MemOk, OutOk, Int32.lt_iff_toInt_lt, Int32.le_iff_toInt_le, ← Int32.toInt_inj, Int32.toInt_add, Int32.toInt_sub, Int32.toInt_mul, Int32.toInt_neg, zbm, zbm', t1] at c1 hi ⊢) <;> omega)⟩⟩, ⟨by rw [ht]; exact hP, va_K.moved hW.alike hK, hD⟩⟩, hS.F ht⟩) hS.2.2 d_Text_digitsBegin_48
    · exact absurd c2 (by decide)
  · have hF := hF.trans (if_neg c1)
    refine lv_aload_n hx hb d_Text_digitsBegin_11 rfl (lv_at hl 0 rfl) ?_
    refine va_get (D := D) (v := .ref a) (C := "ColonMachine$Text") (T := T_Text) (N := 5) hx hb hT i_Text hown hK hP 0 rfl rfl 0 (by decide) (hT _ fl_Text_11) (fun _ h9 => h9) rfl d_Text_digitsBegin_12 ?_
    refine lv_aload_n hx hb d_Text_digitsBegin_15 rfl (lv_at hl 0 rfl) ?_
    refine va_get (D := D) (v := .int tw) (C := "ColonMachine$Text") (T := T_Text) (N := 5) hx hb hT i_Text hown hK hP 0 rfl rfl 3 (by decide) (hT _ fl_Text_22) (fun _ h9 => h9) rfl d_Text_digitsBegin_16 ?_
    refine va_iald hx hb hK hP 1 0 rfl rfl (by have := ti_lo tw; have := ti_hi tw; have := ti_lo tb; have := ti_hi tb; have := ti_lo te; have := ti_hi te; have := ti_lo tx; have := ti_hi tx; have t500 : Int32.toInt 500 = 500 := rfl; rw [vp_in_iff]; (try simp only [true_or, or_true, true_and, and_true, z_tn, CellsOk, CallsOk, TextOk, MemOk, OutOk, Int32.lt_iff_toInt_lt, Int32.le_iff_toInt_le, ← Int32.toInt_inj, Int32.toInt_add, Int32.toInt_sub, Int32.toInt_mul, Int32.toInt_neg, zbm, zbm', t500] at c1 hi ⊢) <;> omega) d_Text_digitsBegin_19 ?_
    refine lv_bipush (v := 45) hx hb d_Text_digitsBegin_20 (by decide) ?_
    refine lv_icmp_ne (tgt := 29) hx hb d_Text_digitsBegin_22 (by decide) (fun c3 => ?_) (fun c3 => ?_)
    · have hF := hF.trans (if_neg c3)
      refine lv_iconst (v := 0) hx hb d_Text_digitsBegin_29 (by decide) ?_
      refine lv_istore_n (lv' := [(1, .int 0), (0, .ref h)]) hx hb d_Text_digitsBegin_30 rfl hl (by decide) rfl (fun ls hl => ?_)
      refine lv_iload_n hx hb d_Text_digitsBegin_31 rfl (lv_at hl 0 rfl) ?_
      refine lv_if_eq (tgt := 44) hx hb d_Text_digitsBegin_32 (by decide) (fun c4 => ?_) (fun c4 => ?_)
      · refine lv_aload_n hx hb d_Text_digitsBegin_44 rfl (lv_at hl 1 rfl) ?_
        refine va_get (D := D) (v := .int tw) (C := "ColonMachine$Text") (T := T_Text) (N := 5) hx hb hT i_Text hown hK hP 0 rfl rfl 3 (by decide) (hT _ fl_Text_22) (fun _ h9 => h9) rfl d_Text_digitsBegin_45 ?_
        exact W.iret (v := tw) hx hb hr (fun t ht hW => ⟨⟨_, (), rfl, ⟨hF.symm, ⟨(by have := ti_lo tb; have := ti_hi tb; have := ti_lo te; have := ti_hi te; have := ti_lo tw; have := ti_hi tw; have := ti_lo tx; have := ti_hi tx; have t45 : Int32.toInt 45 = 45 := rfl; (try simp only [true_or, or_true, true_and, and_true, z_tn, CellsOk, CallsOk, TextOk, MemOk, OutOk, Int32.lt_iff_toInt_lt, Int32.le_iff_toInt_le, ← Int32.toInt_inj, Int32.toInt_add, Int32.toInt_sub, Int32.toInt_mul, Int32.toInt_neg, zbm, zbm', t45] at c1 c3 hi ⊢) <;> omega), (by have := ti_lo tb; have := ti_hi tb; have := ti_lo te; have := ti_hi te; have := ti_lo tw; have := ti_hi tw; have := ti_lo tx; have := ti_hi tx; have t1 : Int32.toInt 1 = 1 := rfl; have t45 : Int32.toInt 45 = 45 := rfl; (try simp only [true_or, or_true, true_and, and_true, z_tn, CellsOk, CallsOk, TextOk, MemOk, OutOk, Int32.lt_iff_toInt_lt, Int32.le_iff_toInt_le, ← Int32.toInt_inj, Int32.toInt_add, Int32.toInt_sub, Int32.toInt_mul, Int32.toInt_neg, zbm, zbm', t1, t45] at c1 c3 hi ⊢) <;> omega)⟩⟩, ⟨by rw [ht]; exact hP, va_K.moved hW.alike hK, hD⟩⟩, hS.F ht⟩) hS.2.2 d_Text_digitsBegin_48
      · exact absurd c4 (by decide)
    · have hF := hF.trans (if_pos c3)
      refine lv_iconst (v := 1) hx hb d_Text_digitsBegin_25 (by decide) ?_
      refine lv_goto (tgt := 30) hx hb d_Text_digitsBegin_26 (by decide) ?_
      refine lv_istore_n (lv' := [(1, .int 1), (0, .ref h)]) hx hb d_Text_digitsBegin_30 rfl hl (by decide) rfl (fun ls hl => ?_)
      refine lv_iload_n hx hb d_Text_digitsBegin_31 rfl (lv_at hl 0 rfl) ?_
      refine lv_if_eq (tgt := 44) hx hb d_Text_digitsBegin_32 (by decide) (fun c5 => ?_) (fun c5 => ?_)
      · exact absurd c5 (by decide)
      · refine lv_aload_n hx hb d_Text_digitsBegin_35 rfl (lv_at hl 1 rfl) ?_
        refine va_get (D := D) (v := .int tw) (C := "ColonMachine$Text") (T := T_Text) (N := 5) hx hb hT i_Text hown hK hP 0 rfl rfl 3 (by decide) (hT _ fl_Text_22) (fun _ h9 => h9) rfl d_Text_digitsBegin_36 ?_
        refine lv_iconst (v := 1) hx hb d_Text_digitsBegin_39 (by decide) ?_
        refine lv_iadd hx hb d_Text_digitsBegin_40 ?_
        refine lv_goto (tgt := 48) hx hb d_Text_digitsBegin_41 (by decide) ?_
        exact W.iret (v := tw + 1) hx hb hr (fun t ht hW => ⟨⟨_, (), rfl, ⟨hF.symm, ⟨(by have := ti_lo tw; have := ti_hi tw; have := ti_lo tb; have := ti_hi tb; have := ti_lo te; have := ti_hi te; have := ti_lo tx; have := ti_hi tx; have t1 : Int32.toInt 1 = 1 := rfl; have t45 : Int32.toInt 45 = 45 := rfl; (try simp only [true_or, or_true, true_and, and_true, z_tn, CellsOk, CallsOk, TextOk, MemOk, OutOk, Int32.lt_iff_toInt_lt, Int32.le_iff_toInt_le, ← Int32.toInt_inj, Int32.toInt_add, Int32.toInt_sub, Int32.toInt_mul, Int32.toInt_neg, zbm, zbm', t1, t45] at c1 c3 hi ⊢) <;> omega), (by have := ti_lo tw; have := ti_hi tw; have := ti_lo tb; have := ti_hi tb; have := ti_lo te; have := ti_hi te; have := ti_lo tx; have := ti_hi tx; have t1 : Int32.toInt 1 = 1 := rfl; have t45 : Int32.toInt 45 = 45 := rfl; (try simp only [true_or, or_true, true_and, and_true, z_tn, CellsOk, CallsOk, TextOk, MemOk, OutOk, Int32.lt_iff_toInt_lt, Int32.le_iff_toInt_le, ← Int32.toInt_inj, Int32.toInt_add, Int32.toInt_sub, Int32.toInt_mul, Int32.toInt_neg, zbm, zbm', t1, t45] at c1 c3 hi ⊢) <;> omega)⟩⟩, ⟨by rw [ht]; exact hP, va_K.moved hW.alike hK, hD⟩⟩, hS.F ht⟩) hS.2.2 d_Text_digitsBegin_48
/-- the picture of ColonMachine$Text.digit -/
def F_Text_digit (x1 : Int32) : Int32 := if x1 < 48 then (if x1 < 97 then (-1) else (if 122 < x1 then (-1) else ((x1 - 97) + 10))) else (if 57 < x1 then (if x1 < 97 then (-1) else (if 122 < x1 then (-1) else ((x1 - 97) + 10))) else (x1 - 48))
theorem F_Text_digit_e (x1 : Int32) : F_Text_digit x1 = if x1 < 48 then (if x1 < 97 then (-1) else (if 122 < x1 then (-1) else ((x1 - 97) + 10))) else (if 57 < x1 then (if x1 < 97 then (-1) else (if 122 < x1 then (-1) else ((x1 - 97) + 10))) else (x1 - 48)) := rfl
set_option maxHeartbeats 4000000 in
set_option maxRecDepth 100000 in
theorem c_Text_digit (l : Launch) (D : va_G) (cI cJ cZ cW cT : ClassId) (sz : Nat) (x1 : Int32)  : Met l y_Text_digit w_Text_digit ({ frames := 0, cells := 0, slots := 0, locals := 0 }) (va_Pc [.int x1] (zP D classes (TY cI cJ cZ cW cT) [] sz)) (va_Qi (fun (r : Int32) (_ : Unit) => r = F_Text_digit x1 ∧ (True)) (fun _ => zB D classes (TY cI cJ cZ cW cT) (va_A [] sz) []) (va_A [] sz)) 0 0 (va_A [] sz) := by
  refine Met.ofW (cc := b_Text_digit) (maxL := 1) (ret := (some .int)) (by decide) rfl ?_
  intro p e s m args below meth c s₁ B hml hv
  obtain ⟨rfl, hsz, hP, hK, hD0, hE⟩ := hv
  have hx := B.exec
  have hb := B.bytes
  have hr := B.returns
  have hts := atoms_spec (ws := w_Text_digit) B.pre
  have hT : ∀ w ∈ TB, w.before _ s = true := fun w h => hts w (List.mem_cons_of_mem _ h)
  have hown : s.vm.findClass "ColonMachine$Text" = some m.cls := findClass_of_methodNamed B.named
  have hlocks := B.notSynchronized
  subst hsz
  have hD := hD0.self (sz := s.heap.size)
  generalize hAe : va_A [] s.heap.size = A at hD hE ⊢
  have hA : ∀ q : Nat, s.heap.size ≤ q → A q := fun q h => by rw [← hAe]; exact Or.inr h
  have hS : va_S A s.heap s.heap [] := va_S.rf
  have hl := lv_entry [.int x1] (n := 1) (Nat.le_of_ble_eq_true rfl)
  rw [lg_entry_eq]
  generalize (lg_sl [.int x1] ++ List.replicate (1 - (lg_sl [.int x1]).length) Slot.unset).toArray = ls at hl ⊢
  have hl : lv_has ls 1 [(0, .int x1)] := hl
  have hF := F_Text_digit_e x1
  refine lv_iload_n hx hb d_Text_digit_0 rfl (lv_at hl 0 rfl) ?_
  refine lv_bipush (v := 48) hx hb d_Text_digit_1 (by decide) ?_
  refine lv_icmp_lt (tgt := 17) hx hb d_Text_digit_3 (by decide) (fun c1 => ?_) (fun c1 => ?_)
  · have hF := hF.trans (if_pos c1)
    refine lv_iload_n hx hb d_Text_digit_17 rfl (lv_at hl 0 rfl) ?_
    refine lv_bipush (v := 97) hx hb d_Text_digit_18 (by decide) ?_
    refine lv_icmp_lt (tgt := 39) hx hb d_Text_digit_20 (by decide) (fun c2 => ?_) (fun c2 => ?_)
    · have hF := hF.trans (if_pos c2)
      refine lv_iconst (v := (-1)) hx hb d_Text_digit_39 (by decide) ?_
      exact W.iret (v := (-1)) hx hb hr (fun t ht hW => ⟨⟨_, (), rfl, ⟨hF.symm, trivial⟩, ⟨by rw [ht]; exact hP, va_K.moved hW.alike hK, hD⟩⟩, hS.F ht⟩) hS.2.2 d_Text_digit_40
    · have hF := hF.trans (if_neg c2)
      refine lv_iload_n hx hb d_Text_digit_23 rfl (lv_at hl 0 rfl) ?_
      refine lv_bipush (v := 122) hx hb d_Text_digit_24 (by decide) ?_
      refine lv_icmp_gt (tgt := 39) hx hb d_Text_digit_26 (by decide) (fun c3 => ?_) (fun c3 => ?_)
      · have hF := hF.trans (if_pos c3)
        refine lv_iconst (v := (-1)) hx hb d_Text_digit_39 (by decide) ?_
        exact W.iret (v := (-1)) hx hb hr (fun t ht hW => ⟨⟨_, (), rfl, ⟨hF.symm, trivial⟩, ⟨by rw [ht]; exact hP, va_K.moved hW.alike hK, hD⟩⟩, hS.F ht⟩) hS.2.2 d_Text_digit_40
      · have hF := hF.trans (if_neg c3)
        refine lv_iload_n hx hb d_Text_digit_29 rfl (lv_at hl 0 rfl) ?_
        refine lv_bipush (v := 97) hx hb d_Text_digit_30 (by decide) ?_
        refine lv_isub hx hb d_Text_digit_32 ?_
        refine lv_bipush (v := 10) hx hb d_Text_digit_33 (by decide) ?_
        refine lv_iadd hx hb d_Text_digit_35 ?_
        refine lv_goto (tgt := 40) hx hb d_Text_digit_36 (by decide) ?_
        exact W.iret (v := (x1 - 97) + 10) hx hb hr (fun t ht hW => ⟨⟨_, (), rfl, ⟨hF.symm, trivial⟩, ⟨by rw [ht]; exact hP, va_K.moved hW.alike hK, hD⟩⟩, hS.F ht⟩) hS.2.2 d_Text_digit_40
  · have hF := hF.trans (if_neg c1)
    refine lv_iload_n hx hb d_Text_digit_6 rfl (lv_at hl 0 rfl) ?_
    refine lv_bipush (v := 57) hx hb d_Text_digit_7 (by decide) ?_
    refine lv_icmp_gt (tgt := 17) hx hb d_Text_digit_9 (by decide) (fun c4 => ?_) (fun c4 => ?_)
    · have hF := hF.trans (if_pos c4)
      refine lv_iload_n hx hb d_Text_digit_17 rfl (lv_at hl 0 rfl) ?_
      refine lv_bipush (v := 97) hx hb d_Text_digit_18 (by decide) ?_
      refine lv_icmp_lt (tgt := 39) hx hb d_Text_digit_20 (by decide) (fun c5 => ?_) (fun c5 => ?_)
      · have hF := hF.trans (if_pos c5)
        refine lv_iconst (v := (-1)) hx hb d_Text_digit_39 (by decide) ?_
        exact W.iret (v := (-1)) hx hb hr (fun t ht hW => ⟨⟨_, (), rfl, ⟨hF.symm, trivial⟩, ⟨by rw [ht]; exact hP, va_K.moved hW.alike hK, hD⟩⟩, hS.F ht⟩) hS.2.2 d_Text_digit_40
      · have hF := hF.trans (if_neg c5)
        refine lv_iload_n hx hb d_Text_digit_23 rfl (lv_at hl 0 rfl) ?_
        refine lv_bipush (v := 122) hx hb d_Text_digit_24 (by decide) ?_
        refine lv_icmp_gt (tgt := 39) hx hb d_Text_digit_26 (by decide) (fun c6 => ?_) (fun c6 => ?_)
        · have hF := hF.trans (if_pos c6)
          refine lv_iconst (v := (-1)) hx hb d_Text_digit_39 (by decide) ?_
          exact W.iret (v := (-1)) hx hb hr (fun t ht hW => ⟨⟨_, (), rfl, ⟨hF.symm, trivial⟩, ⟨by rw [ht]; exact hP, va_K.moved hW.alike hK, hD⟩⟩, hS.F ht⟩) hS.2.2 d_Text_digit_40
        · have hF := hF.trans (if_neg c6)
          refine lv_iload_n hx hb d_Text_digit_29 rfl (lv_at hl 0 rfl) ?_
          refine lv_bipush (v := 97) hx hb d_Text_digit_30 (by decide) ?_
          refine lv_isub hx hb d_Text_digit_32 ?_
          refine lv_bipush (v := 10) hx hb d_Text_digit_33 (by decide) ?_
          refine lv_iadd hx hb d_Text_digit_35 ?_
          refine lv_goto (tgt := 40) hx hb d_Text_digit_36 (by decide) ?_
          exact W.iret (v := (x1 - 97) + 10) hx hb hr (fun t ht hW => ⟨⟨_, (), rfl, ⟨hF.symm, trivial⟩, ⟨by rw [ht]; exact hP, va_K.moved hW.alike hK, hD⟩⟩, hS.F ht⟩) hS.2.2 d_Text_digit_40
    · have hF := hF.trans (if_neg c4)
      refine lv_iload_n hx hb d_Text_digit_12 rfl (lv_at hl 0 rfl) ?_
      refine lv_bipush (v := 48) hx hb d_Text_digit_13 (by decide) ?_
      refine lv_isub hx hb d_Text_digit_15 ?_
      exact W.iret (v := x1 - 48) hx hb hr (fun t ht hW => ⟨⟨_, (), rfl, ⟨hF.symm, trivial⟩, ⟨by rw [ht]; exact hP, va_K.moved hW.alike hK, hD⟩⟩, hS.F ht⟩) hS.2.2 d_Text_digit_16
