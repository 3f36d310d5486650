theorem co_Mach_feed : (Jvm.Cond.code ({ cls := "ColonMachine", name := "feed", desc := "(JI)I" } : Jvm.MethodName) prog_1_method_2_code (4 : Nat) (Option.some Jvm.ClassFile.FieldType.int)) ∈ TB := tbI2 _ (List.mem_of_getElem? (i := 69) rfl) rfl
theorem ml_Mach_85 : (Jvm.Cond.methodLink "ColonMachine" (85 : Nat) ({ cls := "ColonMachine$Text", name := "hasRoomFor", desc := "(I)Z" } : Jvm.MethodName)) ∈ TB := tbI2 _ (List.mem_of_getElem? (i := 139) rfl) rfl
theorem im_Text_hasRoomFor : (Jvm.Cond.instanceMethod ({ cls := "ColonMachine$Text", name := "hasRoomFor", desc := "(I)Z" } : Jvm.MethodName)) ∈ TB := tbI2 _ (List.mem_of_getElem? (i := 140) rfl) rfl
theorem se_Text_hasRoomFor : (Jvm.Cond.selects "ColonMachine$Text" ({ cls := "ColonMachine$Text", name := "hasRoomFor", desc := "(I)Z" } : Jvm.MethodName) ({ cls := "ColonMachine$Text", name := "hasRoomFor", desc := "(I)Z" } : Jvm.MethodName)) ∈ TB := tbI2 _ (List.mem_of_getElem? (i := 141) rfl) rfl
theorem ml_Mach_94 : (Jvm.Cond.methodLink "ColonMachine" (94 : Nat) ({ cls := "ColonMachine$Text", name := "append", desc := "(JI)V" } : Jvm.MethodName)) ∈ TB := tbI2 _ (List.mem_of_getElem? (i := 163) rfl) rfl
theorem im_Text_append : (Jvm.Cond.instanceMethod ({ cls := "ColonMachine$Text", name := "append", desc := "(JI)V" } : Jvm.MethodName)) ∈ TB := tbI2 _ (List.mem_of_getElem? (i := 164) rfl) rfl
theorem se_Text_append : (Jvm.Cond.selects "ColonMachine$Text" ({ cls := "ColonMachine$Text", name := "append", desc := "(JI)V" } : Jvm.MethodName) ({ cls := "ColonMachine$Text", name := "append", desc := "(JI)V" } : Jvm.MethodName)) ∈ TB := tbI2 _ (List.mem_of_getElem? (i := 165) rfl) rfl
theorem ml_Mach_98 : (Jvm.Cond.methodLink "ColonMachine" (98 : Nat) ({ cls := "ColonMachine$Text", name := "size", desc := "()I" } : Jvm.MethodName)) ∈ TB := tbI2 _ (List.mem_of_getElem? (i := 174) rfl) rfl
theorem co_Mach_run : (Jvm.Cond.code ({ cls := "ColonMachine", name := "run", desc := "(I)I" } : Jvm.MethodName) prog_1_method_3_code (4 : Nat) (Option.some Jvm.ClassFile.FieldType.int)) ∈ TB := tbI2 _ (List.mem_of_getElem? (i := 181) rfl) rfl
theorem ml_Mach_104 : (Jvm.Cond.methodLink "ColonMachine" (104 : Nat) ({ cls := "ColonMachine", name := "nothingIsLeft", desc := "()Z" } : Jvm.MethodName)) ∈ TB := tbI2 _ (List.mem_of_getElem? (i := 183) rfl) rfl
theorem im_Mach_nothingIsLeft : (Jvm.Cond.instanceMethod ({ cls := "ColonMachine", name := "nothingIsLeft", desc := "()Z" } : Jvm.MethodName)) ∈ TB := tbI2 _ (List.mem_of_getElem? (i := 185) rfl) rfl
theorem se_Mach_nothingIsLeft : (Jvm.Cond.selects "ColonMachine" ({ cls := "ColonMachine", name := "nothingIsLeft", desc := "()Z" } : Jvm.MethodName) ({ cls := "ColonMachine", name := "nothingIsLeft", desc := "()Z" } : Jvm.MethodName)) ∈ TB := tbP _ (List.mem_of_getElem? (i := 1) rfl) rfl
theorem in_Mach : (Jvm.Cond.initialized "ColonMachine") ∈ TB := tbI1 _ (List.mem_of_getElem? (i := 1) rfl) rfl
theorem co_Mach_push : (Jvm.Cond.code ({ cls := "ColonMachine", name := "push", desc := "(I)V" } : Jvm.MethodName) prog_1_method_6_code (2 : Nat) (Option.none : Option Jvm.ClassFile.FieldType)) ∈ TB := tbI7 _ (List.mem_of_getElem? (i := 41) rfl) rfl
theorem ml_Mach_130 : (Jvm.Cond.methodLink "ColonMachine" (130 : Nat) ({ cls := "ColonMachine$Cells", name := "hasRoomFor", desc := "(I)Z" } : Jvm.MethodName)) ∈ TB := tbI5 _ (List.mem_of_getElem? (i := 51) rfl) rfl
theorem im_Cells_hasRoomFor : (Jvm.Cond.instanceMethod ({ cls := "ColonMachine$Cells", name := "hasRoomFor", desc := "(I)Z" } : Jvm.MethodName)) ∈ TB := tbI4 _ (List.mem_of_getElem? (i := 207) rfl) rfl
theorem se_Cells_hasRoomFor : (Jvm.Cond.selects "ColonMachine$Cells" ({ cls := "ColonMachine$Cells", name := "hasRoomFor", desc := "(I)Z" } : Jvm.MethodName) ({ cls := "ColonMachine$Cells", name := "hasRoomFor", desc := "(I)Z" } : Jvm.MethodName)) ∈ TB := tbI4 _ (List.mem_of_getElem? (i := 208) rfl) rfl
theorem ml_Mach_133 : (Jvm.Cond.methodLink "ColonMachine" (133 : Nat) ({ cls := "ColonMachine$Cells", name := "put", desc := "(I)V" } : Jvm.MethodName)) ∈ TB := tbI5 _ (List.mem_of_getElem? (i := 52) rfl) rfl
theorem im_Cells_put : (Jvm.Cond.instanceMethod ({ cls := "ColonMachine$Cells", name := "put", desc := "(I)V" } : Jvm.MethodName)) ∈ TB := tbI4 _ (List.mem_of_getElem? (i := 232) rfl) rfl
theorem se_Cells_put : (Jvm.Cond.selects "ColonMachine$Cells" ({ cls := "ColonMachine$Cells", name := "put", desc := "(I)V" } : Jvm.MethodName) ({ cls := "ColonMachine$Cells", name := "put", desc := "(I)V" } : Jvm.MethodName)) ∈ TB := tbI4 _ (List.mem_of_getElem? (i := 233) rfl) rfl
theorem co_Mach_peek : (Jvm.Cond.code ({ cls := "ColonMachine", name := "peek", desc := "(I)I" } : Jvm.MethodName) prog_1_method_7_code (2 : Nat) (Option.some Jvm.ClassFile.FieldType.int)) ∈ TB := tbI7 _ (List.mem_of_getElem? (i := 49) rfl) rfl
theorem ml_Mach_136 : (Jvm.Cond.methodLink "ColonMachine" (136 : Nat) ({ cls := "ColonMachine$Memory", name := "isValid", desc := "(I)Z" } : Jvm.MethodName)) ∈ TB := tbI7 _ (List.mem_of_getElem? (i := 50) rfl) rfl
theorem im_Memory_isValid : (Jvm.Cond.instanceMethod ({ cls := "ColonMachine$Memory", name := "isValid", desc := "(I)Z" } : Jvm.MethodName)) ∈ TB := tbI5 _ (List.mem_of_getElem? (i := 214) rfl) rfl
theorem se_Memory_isValid : (Jvm.Cond.selects "ColonMachine$Memory" ({ cls := "ColonMachine$Memory", name := "isValid", desc := "(I)Z" } : Jvm.MethodName) ({ cls := "ColonMachine$Memory", name := "isValid", desc := "(I)Z" } : Jvm.MethodName)) ∈ TB := tbI5 _ (List.mem_of_getElem? (i := 215) rfl) rfl
theorem ml_Mach_141 : (Jvm.Cond.methodLink "ColonMachine" (141 : Nat) ({ cls := "ColonMachine$Memory", name := "read", desc := "(I)I" } : Jvm.MethodName)) ∈ TB := tbI7 _ (List.mem_of_getElem? (i := 52) rfl) rfl
theorem kl_Mach_78 : (Jvm.Cond.classLink "ColonMachine" (78 : Nat) "java/lang/IllegalArgumentException") ∈ TB := tbI2 _ (List.mem_of_getElem? (i := 70) rfl) rfl
theorem in_IllegalArgumentException : (Jvm.Cond.initialized "java/lang/IllegalArgumentException") ∈ TB := tbI1 _ (List.mem_of_getElem? (i := 14) rfl) rfl
theorem co_Mach_pick : (Jvm.Cond.code ({ cls := "ColonMachine", name := "pick", desc := "(I)I" } : Jvm.MethodName) prog_1_method_5_code (2 : Nat) (Option.some Jvm.ClassFile.FieldType.int)) ∈ TB := tbI7 _ (List.mem_of_getElem? (i := 21) rfl) rfl
theorem kl_Mach_121 : (Jvm.Cond.classLink "ColonMachine" (121 : Nat) "java/lang/IndexOutOfBoundsException") ∈ TB := tbI7 _ (List.mem_of_getElem? (i := 22) rfl) rfl
theorem in_IndexOutOfBoundsException : (Jvm.Cond.initialized "java/lang/IndexOutOfBoundsException") ∈ TB := tbI1 _ (List.mem_of_getElem? (i := 29) rfl) rfl
abbrev b_Mach_feed : ByteArray := prog_1_method_2_code
def y_Mach_feed : MethodName := { cls := "ColonMachine", name := "feed", desc := "(JI)I" }
abbrev w_Mach_feed : List Cond := .code y_Mach_feed b_Mach_feed 4 (Option.some Jvm.ClassFile.FieldType.int) :: TB
theorem v_Text_hasRoomFor : y_Text_hasRoomFor.cls = "ColonMachine$Text" ∧ y_Text_hasRoomFor.cls ≠ "java/lang/invoke/MethodHandle" ∧ y_Text_hasRoomFor.cls ≠ "java/lang/invoke/VarHandle" ∧ (parseMethodDescriptor y_Text_hasRoomFor.desc).map (fun d => d.parameters.length) = some 1 := by decide +kernel
theorem v_Text_append : y_Text_append.cls = "ColonMachine$Text" ∧ y_Text_append.cls ≠ "java/lang/invoke/MethodHandle" ∧ y_Text_append.cls ≠ "java/lang/invoke/VarHandle" ∧ (parseMethodDescriptor y_Text_append.desc).map (fun d => d.parameters.length) = some 2 := by decide +kernel
abbrev b_Mach_run : ByteArray := prog_1_method_3_code
def y_Mach_run : MethodName := { cls := "ColonMachine", name := "run", desc := "(I)I" }
abbrev w_Mach_run : List Cond := .code y_Mach_run b_Mach_run 4 (Option.some Jvm.ClassFile.FieldType.int) :: TB
theorem v_Mach_nothingIsLeft : y_Mach_nothingIsLeft.cls = "ColonMachine" ∧ y_Mach_nothingIsLeft.cls ≠ "java/lang/invoke/MethodHandle" ∧ y_Mach_nothingIsLeft.cls ≠ "java/lang/invoke/VarHandle" ∧ (parseMethodDescriptor y_Mach_nothingIsLeft.desc).map (fun d => d.parameters.length) = some 0 := by decide +kernel
abbrev b_Mach_push : ByteArray := prog_1_method_6_code
def y_Mach_push : MethodName := { cls := "ColonMachine", name := "push", desc := "(I)V" }
abbrev w_Mach_push : List Cond := .code y_Mach_push b_Mach_push 2 (Option.none : Option Jvm.ClassFile.FieldType) :: TB
theorem v_Cells_hasRoomFor : y_Cells_hasRoomFor.cls = "ColonMachine$Cells" ∧ y_Cells_hasRoomFor.cls ≠ "java/lang/invoke/MethodHandle" ∧ y_Cells_hasRoomFor.cls ≠ "java/lang/invoke/VarHandle" ∧ (parseMethodDescriptor y_Cells_hasRoomFor.desc).map (fun d => d.parameters.length) = some 1 := by decide +kernel
theorem v_Cells_put : y_Cells_put.cls = "ColonMachine$Cells" ∧ y_Cells_put.cls ≠ "java/lang/invoke/MethodHandle" ∧ y_Cells_put.cls ≠ "java/lang/invoke/VarHandle" ∧ (parseMethodDescriptor y_Cells_put.desc).map (fun d => d.parameters.length) = some 1 := by decide +kernel
abbrev b_Mach_peek : ByteArray := prog_1_method_7_code
def y_Mach_peek : MethodName := { cls := "ColonMachine", name := "peek", desc := "(I)I" }
abbrev w_Mach_peek : List Cond := .code y_Mach_peek b_Mach_peek 2 (Option.some Jvm.ClassFile.FieldType.int) :: TB
theorem v_Memory_isValid : y_Memory_isValid.cls = "ColonMachine$Memory" ∧ y_Memory_isValid.cls ≠ "java/lang/invoke/MethodHandle" ∧ y_Memory_isValid.cls ≠ "java/lang/invoke/VarHandle" ∧ (parseMethodDescriptor y_Memory_isValid.desc).map (fun d => d.parameters.length) = some 1 := by decide +kernel
abbrev b_Mach_pick : ByteArray := prog_1_method_5_code
def y_Mach_pick : MethodName := { cls := "ColonMachine", name := "pick", desc := "(I)I" }
abbrev w_Mach_pick : List Cond := .code y_Mach_pick b_Mach_pick 2 (Option.some Jvm.ClassFile.FieldType.int) :: TB
theorem d_Mach_feed_0 : decode b_Mach_feed 0 = .ok (.iload_n 3, 1) := by decide +kernel
theorem d_Mach_feed_1 : decode b_Mach_feed 1 = .ok (.iconst 1, 1) := by decide +kernel
theorem d_Mach_feed_2 : decode b_Mach_feed 2 = .ok (.if_icmp .lt 9, 3) := by decide +kernel
theorem d_Mach_feed_5 : decode b_Mach_feed 5 = .ok (.iload_n 3, 1) := by decide +kernel
theorem d_Mach_feed_6 : decode b_Mach_feed 6 = .ok (.bipush 8, 2) := by decide +kernel
theorem d_Mach_feed_8 : decode b_Mach_feed 8 = .ok (.if_icmp .le 13, 3) := by decide +kernel
theorem d_Mach_feed_21 : decode b_Mach_feed 21 = .ok (.aload_n 0, 1) := by decide +kernel
theorem d_Mach_feed_22 : decode b_Mach_feed 22 = .ok (.getfield 45, 3) := by decide +kernel
theorem d_Mach_feed_25 : decode b_Mach_feed 25 = .ok (.iload_n 3, 1) := by decide +kernel
theorem d_Mach_feed_26 : decode b_Mach_feed 26 = .ok (.invokevirtual 85, 3) := by decide +kernel
theorem d_Mach_feed_29 : decode b_Mach_feed 29 = .ok (.ifCond .ne 13, 3) := by decide +kernel
theorem d_Mach_feed_42 : decode b_Mach_feed 42 = .ok (.aload_n 0, 1) := by decide +kernel
theorem d_Mach_feed_43 : decode b_Mach_feed 43 = .ok (.getfield 45, 3) := by decide +kernel
theorem d_Mach_feed_46 : decode b_Mach_feed 46 = .ok (.lload_n 1, 1) := by decide +kernel
theorem d_Mach_feed_47 : decode b_Mach_feed 47 = .ok (.iload_n 3, 1) := by decide +kernel
theorem d_Mach_feed_48 : decode b_Mach_feed 48 = .ok (.invokevirtual 94, 3) := by decide +kernel
theorem d_Mach_feed_51 : decode b_Mach_feed 51 = .ok (.aload_n 0, 1) := by decide +kernel
theorem d_Mach_feed_52 : decode b_Mach_feed 52 = .ok (.getfield 45, 3) := by decide +kernel
theorem d_Mach_feed_55 : decode b_Mach_feed 55 = .ok (.invokevirtual 98, 3) := by decide +kernel
theorem d_Mach_feed_58 : decode b_Mach_feed 58 = .ok (.ireturn, 1) := by decide +kernel
theorem d_Mach_run_0 : decode b_Mach_run 0 = .ok (.iload_n 1, 1) := by decide +kernel
theorem d_Mach_run_1 : decode b_Mach_run 1 = .ok (.iconst 1, 1) := by decide +kernel
theorem d_Mach_run_2 : decode b_Mach_run 2 = .ok (.if_icmp .lt 10, 3) := by decide +kernel
theorem d_Mach_run_5 : decode b_Mach_run 5 = .ok (.iload_n 1, 1) := by decide +kernel
theorem d_Mach_run_6 : decode b_Mach_run 6 = .ok (.sipush 5000, 3) := by decide +kernel
theorem d_Mach_run_9 : decode b_Mach_run 9 = .ok (.if_icmp .le 13, 3) := by decide +kernel
theorem d_Mach_run_22 : decode b_Mach_run 22 = .ok (.iconst 0, 1) := by decide +kernel
theorem d_Mach_run_23 : decode b_Mach_run 23 = .ok (.istore_n 2, 1) := by decide +kernel
theorem d_Mach_run_24 : decode b_Mach_run 24 = .ok (.iload_n 2, 1) := by decide +kernel
theorem d_Mach_run_25 : decode b_Mach_run 25 = .ok (.iload_n 1, 1) := by decide +kernel
theorem d_Mach_run_26 : decode b_Mach_run 26 = .ok (.if_icmp .ge 59, 3) := by decide +kernel
theorem d_Mach_run_29 : decode b_Mach_run 29 = .ok (.aload_n 0, 1) := by decide +kernel
theorem d_Mach_run_30 : decode b_Mach_run 30 = .ok (.invokevirtual 104, 3) := by decide +kernel
theorem d_Mach_run_33 : decode b_Mach_run 33 = .ok (.ifCond .eq 5, 3) := by decide +kernel
theorem d_Mach_run_36 : decode b_Mach_run 36 = .ok (.iconst 0, 1) := by decide +kernel
theorem d_Mach_run_37 : decode b_Mach_run 37 = .ok (.ireturn, 1) := by decide +kernel
theorem d_Mach_push_0 : decode b_Mach_push 0 = .ok (.aload_n 0, 1) := by decide +kernel
theorem d_Mach_push_1 : decode b_Mach_push 1 = .ok (.getfield 14, 3) := by decide +kernel
theorem d_Mach_push_4 : decode b_Mach_push 4 = .ok (.iconst 1, 1) := by decide +kernel
theorem d_Mach_push_5 : decode b_Mach_push 5 = .ok (.invokevirtual 130, 3) := by decide +kernel
theorem d_Mach_push_8 : decode b_Mach_push 8 = .ok (.ifCond .ne 13, 3) := by decide +kernel
theorem d_Mach_push_21 : decode b_Mach_push 21 = .ok (.aload_n 0, 1) := by decide +kernel
theorem d_Mach_push_22 : decode b_Mach_push 22 = .ok (.getfield 14, 3) := by decide +kernel
theorem d_Mach_push_25 : decode b_Mach_push 25 = .ok (.iload_n 1, 1) := by decide +kernel
theorem d_Mach_push_26 : decode b_Mach_push 26 = .ok (.invokevirtual 133, 3) := by decide +kernel
theorem d_Mach_push_29 : decode b_Mach_push 29 = .ok (.return_, 1) := by decide +kernel
theorem d_Mach_peek_0 : decode b_Mach_peek 0 = .ok (.aload_n 0, 1) := by decide +kernel
theorem d_Mach_peek_1 : decode b_Mach_peek 1 = .ok (.getfield 31, 3) := by decide +kernel
theorem d_Mach_peek_4 : decode b_Mach_peek 4 = .ok (.iload_n 1, 1) := by decide +kernel
theorem d_Mach_peek_5 : decode b_Mach_peek 5 = .ok (.invokevirtual 136, 3) := by decide +kernel
theorem d_Mach_peek_8 : decode b_Mach_peek 8 = .ok (.ifCond .ne 13, 3) := by decide +kernel
theorem d_Mach_peek_21 : decode b_Mach_peek 21 = .ok (.aload_n 0, 1) := by decide +kernel
theorem d_Mach_peek_22 : decode b_Mach_peek 22 = .ok (.getfield 31, 3) := by decide +kernel
theorem d_Mach_peek_25 : decode b_Mach_peek 25 = .ok (.iload_n 1, 1) := by decide +kernel
theorem d_Mach_peek_26 : decode b_Mach_peek 26 = .ok (.invokevirtual 141, 3) := by decide +kernel
theorem d_Mach_peek_29 : decode b_Mach_peek 29 = .ok (.ireturn, 1) := by decide +kernel
theorem d_Mach_feed_11 : decode b_Mach_feed 11 = .ok (.new 78, 3) := by decide +kernel
theorem d_Mach_feed_14 : decode b_Mach_feed 14 = .ok (.dup, 1) := by decide +kernel
theorem d_Mach_feed_15 : decode b_Mach_feed 15 = .ok (.ldc 80, 2) := by decide +kernel
theorem d_Mach_feed_17 : decode b_Mach_feed 17 = .ok (.invokespecial 82, 3) := by decide +kernel
theorem d_Mach_feed_20 : decode b_Mach_feed 20 = .ok (.athrow, 1) := by decide +kernel
theorem d_Mach_run_12 : decode b_Mach_run 12 = .ok (.new 78, 3) := by decide +kernel
theorem d_Mach_run_15 : decode b_Mach_run 15 = .ok (.dup, 1) := by decide +kernel
theorem d_Mach_run_16 : decode b_Mach_run 16 = .ok (.ldc 102, 2) := by decide +kernel
theorem d_Mach_run_18 : decode b_Mach_run 18 = .ok (.invokespecial 82, 3) := by decide +kernel
theorem d_Mach_run_21 : decode b_Mach_run 21 = .ok (.athrow, 1) := by decide +kernel
theorem d_Mach_pick_0 : decode b_Mach_pick 0 = .ok (.iload_n 1, 1) := by decide +kernel
theorem d_Mach_pick_1 : decode b_Mach_pick 1 = .ok (.ifCond .lt 14, 3) := by decide +kernel
theorem d_Mach_pick_15 : decode b_Mach_pick 15 = .ok (.new 121, 3) := by decide +kernel
theorem d_Mach_pick_18 : decode b_Mach_pick 18 = .ok (.dup, 1) := by decide +kernel
theorem d_Mach_pick_19 : decode b_Mach_pick 19 = .ok (.ldc 123, 2) := by decide +kernel
theorem d_Mach_pick_21 : decode b_Mach_pick 21 = .ok (.invokespecial 125, 3) := by decide +kernel
theorem d_Mach_pick_24 : decode b_Mach_pick 24 = .ok (.athrow, 1) := by decide +kernel
theorem d_Mach_pick_4 : decode b_Mach_pick 4 = .ok (.iload_n 1, 1) := by decide +kernel
theorem d_Mach_pick_5 : decode b_Mach_pick 5 = .ok (.aload_n 0, 1) := by decide +kernel
theorem d_Mach_pick_6 : decode b_Mach_pick 6 = .ok (.getfield 14, 3) := by decide +kernel
theorem d_Mach_pick_9 : decode b_Mach_pick 9 = .ok (.invokevirtual 120, 3) := by decide +kernel
theorem d_Mach_pick_12 : decode b_Mach_pick 12 = .ok (.if_icmp .lt 13, 3) := by decide +kernel
theorem d_Mach_peek_11 : decode b_Mach_peek 11 = .ok (.new 121, 3) := by decide +kernel
theorem d_Mach_peek_14 : decode b_Mach_peek 14 = .ok (.dup, 1) := by decide +kernel
theorem d_Mach_peek_15 : decode b_Mach_peek 15 = .ok (.ldc 139, 2) := by decide +kernel
theorem d_Mach_peek_17 : decode b_Mach_peek 17 = .ok (.invokespecial 125, 3) := by decide +kernel
theorem d_Mach_peek_20 : decode b_Mach_peek 20 = .ok (.athrow, 1) := by decide +kernel
def F_Text_append0_L37 (x1 : Int64) (x2 : Int32) (q2 : Int32 × Int32 × Int32 × Int32) : Nat → (Int32) → (Int32) → (Nat → Int32) → Int32 × Int32 × Int32 × Int32 × (Nat → Int32)
  | 0, _, _, _ => (0, 0, 0, 0, (fun _ => 0))
  | k37 + 1, v5, z0_2, z1_f => if x2 ≤ v5 then (q2.1, z0_2, q2.2.2.1, q2.2.2.2, z1_f) else (if 500 ≤ z0_2 then (q2.1, z0_2, q2.2.2.1, q2.2.2.2, z1_f) else (F_Text_append0_L37 x1 x2 q2 k37 (v5 + 1) (z0_2 + 1) (upd z1_f z0_2.toNatClampNeg ((((x1.toUInt64 >>> ((8 * v5).toInt64.toUInt64 &&& Int64.toUInt64 63)).toInt64).toInt32) &&& 255))))
theorem F_Text_append0_L37_s (x1 : Int64) (x2 : Int32) (q2 : Int32 × Int32 × Int32 × Int32) (k37 : Nat) (v5 : Int32) (z0_2 : Int32) (z1_f : Nat → Int32) : F_Text_append0_L37 x1 x2 q2 (k37 + 1) v5 z0_2 z1_f = if x2 ≤ v5 then (q2.1, z0_2, q2.2.2.1, q2.2.2.2, z1_f) else (if 500 ≤ z0_2 then (q2.1, z0_2, q2.2.2.1, q2.2.2.2, z1_f) else (F_Text_append0_L37 x1 x2 q2 k37 (v5 + 1) (z0_2 + 1) (upd z1_f z0_2.toNatClampNeg ((((x1.toUInt64 >>> ((8 * v5).toInt64.toUInt64 &&& Int64.toUInt64 63)).toInt64).toInt32) &&& 255)))) := rfl
/-- the picture of ColonMachine$Text.append -/
def F_Text_append0 (tb : Int32) (te : Int32) (tf : Nat → Int32) (x1 : Int64) (x2 : Int32) : Int32 × Int32 × Int32 × Int32 × (Nat → Int32) := bd (F_Text_size tb te) (fun q1 => bd (F_Text_empty) (fun q2 => F_Text_append0_L37 x1 x2 q2 (((x2.toInt - (0 : Int32).toInt).toNat) + 1) 0 q1 (va_cpy tf tf tb.toNatClampNeg (0 : Int32).toNatClampNeg q1.toNatClampNeg)))
theorem F_Text_append0_e (tb : Int32) (te : Int32) (tf : Nat → Int32) (x1 : Int64) (x2 : Int32) : F_Text_append0 tb te tf x1 x2 = bd (F_Text_size tb te) (fun q1 => bd (F_Text_empty) (fun q2 => F_Text_append0_L37 x1 x2 q2 (((x2.toInt - (0 : Int32).toInt).toNat) + 1) 0 q1 (va_cpy tf tf tb.toNatClampNeg (0 : Int32).toNatClampNeg q1.toNatClampNeg))) := rfl
set_option maxHeartbeats 4000000 in
set_option maxRecDepth 100000 in
theorem c_Text_append0 (l : Launch) (D : va_G) (cI cJ cZ cW cT : ClassId) (sz : Nat) (h : Nat) (a : Nat) (tb : Int32) (te : Int32) (tw : Int32) (tx : Int32) (tf : Nat → Int32) (x1 : Int64) (x2 : Int32) (hi : TextOk tb te tw tx) (hp : tb.toInt = 0) (hq : te.toInt = 0) (hn : 0 ≤ x2.toInt) (hmx : x2.toInt ≤ 8) : Met l y_Text_append w_Text_append ({ frames := 1, cells := 0, slots := 0, locals := 26 }) (va_Pc [.ref h, .long x1, .int x2] (zP D classes (TY cI cJ cZ cW cT) [(h, .inr (7, [.ref a, .int tb, .int te, .int tw, .int tx])), (a, .inl (cI, 500, .inl tf))] sz)) (va_Qv (fun u : Int32 × Int32 × Int32 × Int32 × (Nat → Int32) => u = F_Text_append0 tb te tf x1 x2 ∧ ((TextOk u.1 u.2.1 u.2.2.1 u.2.2.2.1) ∧ (u.1.toInt = 0) ∧ (u.2.1.toInt = x2.toInt))) (fun u => zB D classes (TY cI cJ cZ cW cT) (va_A [(h, .inr (7, [.ref a, .int tb, .int te, .int tw, .int tx])), (a, .inl (cI, 500, .inl tf))] sz) [(h, .inr (7, [.ref a, .int u.1, .int u.2.1, .int u.2.2.1, .int u.2.2.2.1])), (a, .inl (cI, 500, .inl u.2.2.2.2))]) (va_A [(h, .inr (7, [.ref a, .int tb, .int te, .int tw, .int tx])), (a, .inl (cI, 500, .inl tf))] sz)) 0 0 (va_A [(h, .inr (7, [.ref a, .int tb, .int te, .int tw, .int tx])), (a, .inl (cI, 500, .inl tf))] sz) := by
  refine Met.ofW (cc := b_Text_append) (maxL := 6) (ret := none) (by decide) rfl ?_
  intro p e s m args below meth c s₁ B hml hv
  obtain ⟨rfl, hsz, hP, hK, hD0, hE⟩ := hv
  have hx := B.exec
  have hb := B.bytes
  have hr := B.returns
  have hts := atoms_spec (ws := w_Text_append) B.pre
  have hT : ∀ w ∈ TB, w.before _ s = true := fun w h => hts w (List.mem_cons_of_mem _ h)
  have hown : s.vm.findClass "ColonMachine$Text" = some m.cls := findClass_of_methodNamed B.named
  have hlocks := B.notSynchronized
  subst hsz
  have hD := hD0.self (sz := s.heap.size)
  generalize hAe : va_A [(h, .inr (7, [.ref a, .int tb, .int te, .int tw, .int tx])), (a, .inl (cI, 500, .inl tf))] s.heap.size = A at hD hE ⊢
  have hA : ∀ q : Nat, s.heap.size ≤ q → A q := fun q h => by rw [← hAe]; exact Or.inr h
  have hS : va_S A s.heap s.heap [] := va_S.rf
  have hl := lv_entry [.ref h, .long x1, .int x2] (n := 6) (Nat.le_of_ble_eq_true rfl)
  rw [lg_entry_eq]
  generalize (lg_sl [.ref h, .long x1, .int x2] ++ List.replicate (6 - (lg_sl [.ref h, .long x1, .int x2]).length) Slot.unset).toArray = ls at hl ⊢
  have hl : lv_has ls 6 [(0, .ref h), (1, .long x1), (3, .int x2)] := hl
  have hF := F_Text_append0_e tb te tf x1 x2
  refine lv_aload_n hx hb d_Text_append_0 rfl (lv_at hl 0 rfl) ?_
  refine kN_pi (wr := [(a, .inl (cI, 500, .inl tf))]) (zV (wc := [(h, .inr (7, [.ref a, .int tb, .int te, .int tw, .int tx]))]) (As := []) (rest := []) (st0 := [.ref h]) ⟨hx, hb, hml, hown, hT⟩ (c_Text_size l D cI cJ cZ cW cT s.heap.size h a tb te tw tx hi) (cwV 0 hT (tbV ml_Text_28 im_Text_size se_Text_size in_Text co_Text_size) rfl rfl rfl v_Text_size ⟨Nat.le_of_ble_eq_true rfl, Nat.le_of_ble_eq_true rfl⟩) hK hE hP hD hS hA [0] rfl rfl 0 rfl rfl rfl hl.1 rfl (Nat.le_of_ble_eq_true rfl) d_Text_append_1 ⟨Nat.le_of_ble_eq_true rfl, Nat.le_of_ble_eq_true rfl⟩) hP hD hS hA [0] [1] rfl rfl rfl (by decide) [1, 0] rfl rfl (fun q1 H locs e1 k1 hP hD hS => ?_)
  have hP : va_P D classes [(h, .inr (7, [.ref a, .int tb, .int te, .int tw, .int tx])), (a, .inl (cI, 500, .inl tf))] H := hP
  have hD : va_D A [(h, .inr (7, [.ref a, .int tb, .int te, .int tw, .int tx])), (a, .inl (cI, 500, .inl tf))] := hD
  have hF := hF.trans (bd_e e1)
  refine lv_istore (lv' := [(4, .int q1), (0, .ref h), (1, .long x1), (3, .int x2)]) hx hb d_Text_append_4 hl (by decide) rfl (fun ls hl => ?_)
  refine lv_aload_n hx hb d_Text_append_6 rfl (lv_at hl 1 rfl) ?_
  refine va_get (D := D) (v := .ref a) (C := "ColonMachine$Text") (T := T_Text) (N := 5) hx hb hT i_Text hown hK hP 0 rfl rfl 0 (by decide) (hT _ fl_Text_11) (fun _ h9 => h9) rfl d_Text_append_7 ?_
  refine lv_aload_n hx hb d_Text_append_10 rfl (lv_at hl 1 rfl) ?_
  refine va_get (D := D) (v := .int tb) (C := "ColonMachine$Text") (T := T_Text) (N := 5) hx hb hT i_Text hown hK hP 0 rfl rfl 1 (by decide) (hT _ fl_Text_15) (fun _ h9 => h9) rfl d_Text_append_11 ?_
  refine lv_aload_n hx hb d_Text_append_14 rfl (lv_at hl 1 rfl) ?_
  refine va_get (D := D) (v := .ref a) (C := "ColonMachine$Text") (T := T_Text) (N := 5) hx hb hT i_Text hown hK hP 0 rfl rfl 0 (by decide) (hT _ fl_Text_11) (fun _ h9 => h9) rfl d_Text_append_15 ?_
  refine lv_iconst (v := 0) hx hb d_Text_append_18 (by decide) ?_
  refine lv_iload hx hb d_Text_append_19 (lv_at hl 0 rfl) ?_
  refine va_copyi hx hb (hml.trans hl.1.symm) hown (hT _ ml_Text_32) (hT _ na_System_arraycopy) (hT _ sm_System_arraycopy) (hT _ in_System) hK hP hD hS 1 1 0 0 rfl rfl rfl rfl rfl (by have := ti_lo tb; have := ti_hi tb; have := ti_lo te; have := ti_hi te; have := ti_lo tw; have := ti_hi tw; have := ti_lo tx; have := ti_hi tx; have := ti_lo q1; have := ti_hi q1; have t0 : Int32.toInt 0 = 0 := rfl; have t8 : Int32.toInt 8 = 8 := rfl; (try simp only [true_or, or_true, true_and, and_true, z_tn, CellsOk, CallsOk, TextOk, MemOk, OutOk, Int32.lt_iff_toInt_lt, Int32.le_iff_toInt_le, ← Int32.toInt_inj, Int32.toInt_add, Int32.toInt_sub, Int32.toInt_mul, Int32.toInt_neg, zbm, zbm', t0, t8] at hi hp hq hn hmx k1 ⊢) <;> omega) (by have := ti_lo tb; have := ti_hi tb; have := ti_lo te; have := ti_hi te; have := ti_lo tw; have := ti_hi tw; have := ti_lo tx; have := ti_hi tx; have := ti_lo q1; have := ti_hi q1; have t0 : Int32.toInt 0 = 0 := rfl; have t8 : Int32.toInt 8 = 8 := rfl; (try simp only [true_or, or_true, true_and, and_true, z_tn, CellsOk, CallsOk, TextOk, MemOk, OutOk, Int32.lt_iff_toInt_lt, Int32.le_iff_toInt_le, ← Int32.toInt_inj, Int32.toInt_add, Int32.toInt_sub, Int32.toInt_mul, Int32.toInt_neg, zbm, zbm', t0, t8] at hi hp hq hn hmx k1 ⊢) <;> omega) (by have := ti_lo q1; have := ti_hi q1; have := ti_lo tb; have := ti_hi tb; have := ti_lo te; have := ti_hi te; have := ti_lo tw; have := ti_hi tw; have := ti_lo tx; have := ti_hi tx; have t0 : Int32.toInt 0 = 0 := rfl; have t8 : Int32.toInt 8 = 8 := rfl; (try simp only [true_or, or_true, true_and, and_true, z_tn, CellsOk, CallsOk, TextOk, MemOk, OutOk, Int32.lt_iff_toInt_lt, Int32.le_iff_toInt_le, ← Int32.toInt_inj, Int32.toInt_add, Int32.toInt_sub, Int32.toInt_mul, Int32.toInt_neg, zbm, zbm', t0, t8] at hi hp hq hn hmx k1 ⊢) <;> omega) (by have := ti_lo tb; have := ti_hi tb; have := ti_lo te; have := ti_hi te; have := ti_lo tw; have := ti_hi tw; have := ti_lo tx; have := ti_hi tx; have := ti_lo q1; have := ti_hi q1; have t500 : Int32.toInt 500 = 500 := rfl; have t0 : Int32.toInt 0 = 0 := rfl; have t8 : Int32.toInt 8 = 8 := rfl; (try simp only [true_or, or_true, true_and, and_true, z_tn, CellsOk, CallsOk, TextOk, MemOk, OutOk, Int32.lt_iff_toInt_lt, Int32.le_iff_toInt_le, ← Int32.toInt_inj, Int32.toInt_add, Int32.toInt_sub, Int32.toInt_mul, Int32.toInt_neg, zbm, zbm', t500, t0, t8] at hi hp hq hn hmx k1 ⊢) <;> omega) (by have := ti_lo tb; have := ti_hi tb; have := ti_lo te; have := ti_hi te; have := ti_lo tw; have := ti_hi tw; have := ti_lo tx; have := ti_hi tx; have := ti_lo q1; have := ti_hi q1; have t0 : Int32.toInt 0 = 0 := rfl; have t500 : Int32.toInt 500 = 500 := rfl; have t8 : Int32.toInt 8 = 8 := rfl; (try simp only [true_or, or_true, true_and, and_true, z_tn, CellsOk, CallsOk, TextOk, MemOk, OutOk, Int32.lt_iff_toInt_lt, Int32.le_iff_toInt_le, ← Int32.toInt_inj, Int32.toInt_add, Int32.toInt_sub, Int32.toInt_mul, Int32.toInt_neg, zbm, zbm', t0, t500, t8] at hi hp hq hn hmx k1 ⊢) <;> omega) (fun _ _ => rfl) (Nat.le_of_ble_eq_true rfl) (Nat.le_of_ble_eq_true rfl) d_Text_append_21 (fun H locs hP hD hS => ?_)
  have hP : va_P D classes [(h, .inr (7, [.ref a, .int tb, .int te, .int tw, .int tx])), (a, .inl (cI, 500, .inl (va_cpy tf tf tb.toNatClampNeg (0 : Int32).toNatClampNeg q1.toNatClampNeg)))] H := hP
  have hD : va_D A [(h, .inr (7, [.ref a, .int tb, .int te, .int tw, .int tx])), (a, .inl (cI, 500, .inl (va_cpy tf tf tb.toNatClampNeg (0 : Int32).toNatClampNeg q1.toNatClampNeg)))] := hD
  refine lv_aload_n hx hb d_Text_append_24 rfl (lv_at hl 1 rfl) ?_
  refine kN_sv (wr := [(a, .inl (cI, 500, .inl (va_cpy tf tf tb.toNatClampNeg (0 : Int32).toNatClampNeg q1.toNatClampNeg)))]) (fun u : Int32 × Int32 × Int32 × Int32 => [(h, .inr (7, [.ref a, .int u.1, .int u.2.1, .int u.2.2.1, .int u.2.2.2])), (a, .inl (cI, 500, .inl (va_cpy tf tf tb.toNatClampNeg (0 : Int32).toNatClampNeg q1.toNatClampNeg)))]) (zV (wc := [(h, .inr (7, [.ref a, .int tb, .int te, .int tw, .int tx]))]) (As := []) (rest := []) (st0 := [.ref h]) ⟨hx, hb, hml, hown, hT⟩ (c_Text_empty l D cI cJ cZ cW cT H.size h a tb te tw tx hi) (cwV 0 hT (tbV ml_Text_38 im_Text_empty se_Text_empty in_Text co_Text_empty) rfl rfl rfl v_Text_empty ⟨Nat.le_of_ble_eq_true rfl, Nat.le_of_ble_eq_true rfl⟩) hK hE hP hD hS hA [0] rfl rfl 0 rfl rfl rfl hl.1 rfl (Nat.le_of_ble_eq_true rfl) d_Text_append_25 ⟨Nat.le_of_ble_eq_true rfl, Nat.le_of_ble_eq_true rfl⟩) hP hD hS hA [0] [1] rfl rfl rfl (by decide) [1, 0] rfl (fun u => rfl) (fun q2 H locs e2 k2 hP hD hS => ?_)
  have hP : va_P D classes [(h, .inr (7, [.ref a, .int q2.1, .int q2.2.1, .int q2.2.2.1, .int q2.2.2.2])), (a, .inl (cI, 500, .inl (va_cpy tf tf tb.toNatClampNeg (0 : Int32).toNatClampNeg q1.toNatClampNeg)))] H := hP
  have hD : va_D A [(h, .inr (7, [.ref a, .int q2.1, .int q2.2.1, .int q2.2.2.1, .int q2.2.2.2])), (a, .inl (cI, 500, .inl (va_cpy tf tf tb.toNatClampNeg (0 : Int32).toNatClampNeg q1.toNatClampNeg)))] := hD
  have hF := hF.trans (bd_e e2)
  refine lv_aload_n hx hb d_Text_append_28 rfl (lv_at hl 1 rfl) ?_
  refine lv_iload hx hb d_Text_append_29 (lv_at hl 0 rfl) ?_
  refine va_put (D := D) (v := .int q1) (ty := .int) (C := "ColonMachine$Text") (T := T_Text) (N := 5) hx hb hT i_Text t_Text tk_Text n_Text hown hK hP hD hS 0 rfl rfl 2 (by decide) (hT _ fl_Text_19) (fun _ h9 => h9) rfl (by decide +kernel) rfl rfl (Nat.le_of_ble_eq_true rfl) d_Text_append_31 (fun H locs hP hD hS => ?_)
  have hP : va_P D classes [(h, .inr (7, [.ref a, .int q2.1, .int q1, .int q2.2.2.1, .int q2.2.2.2])), (a, .inl (cI, 500, .inl (va_cpy tf tf tb.toNatClampNeg (0 : Int32).toNatClampNeg q1.toNatClampNeg)))] H := hP
  have hD : va_D A [(h, .inr (7, [.ref a, .int q2.1, .int q1, .int q2.2.2.1, .int q2.2.2.2])), (a, .inl (cI, 500, .inl (va_cpy tf tf tb.toNatClampNeg (0 : Int32).toNatClampNeg q1.toNatClampNeg)))] := hD
  refine lv_iconst (v := 0) hx hb d_Text_append_34 (by decide) ?_
  refine lv_istore (lv' := [(5, .int 0), (4, .int q1), (0, .ref h), (1, .long x1), (3, .int x2)]) hx hb d_Text_append_35 hl (by decide) rfl (fun ls hl => ?_)
  have loop : ∀ (k37 : Nat) (v5 : Int32) (z0_2 : Int32) (z1_f : Nat → Int32) (hk : (x2.toInt - v5.toInt).toNat < k37) (hv0 : TextOk q2.1 z0_2 q2.2.2.1 q2.2.2.2) (hw : 0 ≤ v5.toInt) (hw2 : z0_2.toInt = v5.toInt) (hw3 : v5.toInt ≤ x2.toInt) (H : Heap) (locs : List Loc) (ls : Array Slot) (hP : va_P D classes [(h, .inr (7, [.ref a, .int q2.1, .int z0_2, .int q2.2.2.1, .int q2.2.2.2])), (a, .inl (cI, 500, .inl z1_f))] H) (hD : va_D A [(h, .inr (7, [.ref a, .int q2.1, .int z0_2, .int q2.2.2.1, .int q2.2.2.2])), (a, .inl (cI, 500, .inl z1_f))]) (hS : va_S A s.heap H locs) (hl : lv_has ls 6 [(5, .int v5), (4, .int q1), (0, .ref h), (1, .long x1), (3, .int x2)]) (hF : F_Text_append0 tb te tf x1 x2 = F_Text_append0_L37 x1 x2 q2 k37 v5 z0_2 z1_f), W p l e (headSpec w_Text_append ({ frames := 1, cells := 0, slots := 0, locals := 26 })).room s m (List.toArray [.ref h, .long x1, .int x2]) below meth c H locs 0 0 (MQ below (va_Qv (fun u : Int32 × Int32 × Int32 × Int32 × (Nat → Int32) => u = F_Text_append0 tb te tf x1 x2 ∧ ((TextOk u.1 u.2.1 u.2.2.1 u.2.2.2.1) ∧ (u.1.toInt = 0) ∧ (u.2.1.toInt = x2.toInt))) (fun u => zB D classes (TY cI cJ cZ cW cT) A [(h, .inr (7, [.ref a, .int u.1, .int u.2.1, .int u.2.2.1, .int u.2.2.2.1])), (a, .inl (cI, 500, .inl u.2.2.2.2))]) A) (List.toArray [.ref h, .long x1, .int x2]) s 0 0 A) (F0 m 37 ls []) := by
    intro k37
    induction k37 with
    | zero => intro v5 z0_2 z1_f hk; exact absurd hk (Nat.not_lt_zero _)
    | succ k37 ih =>
      intro v5 z0_2 z1_f hk hv0 hw hw2 hw3 H locs ls hP hD hS hl hF
      have hF := hF.trans (F_Text_append0_L37_s x1 x2 q2 k37 v5 z0_2 z1_f)
      refine lv_iload hx hb d_Text_append_37 (lv_at hl 0 rfl) ?_
      refine lv_iload_n hx hb d_Text_append_39 rfl (lv_at hl 4 rfl) ?_
      refine lv_icmp_ge (tgt := 90) hx hb d_Text_append_40 (by decide) (fun c3 => ?_) (fun c3 => ?_)
      · have hF := hF.trans (if_pos c3)
        exact W.vret hx hb hr (fun t ht hW => ⟨⟨_, rfl, ⟨hF.symm, ⟨hv0, k2.2.1, (by have := ti_lo tb; have := ti_hi tb; have := ti_lo te; have := ti_hi te; have := ti_lo tw; have := ti_hi tw; have := ti_lo tx; have := ti_hi tx; have := ti_lo q1; have := ti_hi q1; have := ti_lo q2.1; have := ti_hi q2.1; have := ti_lo z0_2; have := ti_hi z0_2; have := ti_lo x2; have := ti_hi x2; have := ti_lo v5; have := ti_hi v5; have t0 : Int32.toInt 0 = 0 := rfl; have t8 : Int32.toInt 8 = 8 := rfl; (try simp only [true_or, or_true, true_and, and_true, z_tn, CellsOk, CallsOk, TextOk, MemOk, OutOk, Int32.lt_iff_toInt_lt, Int32.le_iff_toInt_le, ← Int32.toInt_inj, Int32.toInt_add, Int32.toInt_sub, Int32.toInt_mul, Int32.toInt_neg, zbm, zbm', t0, t8] at c3 hi hp hq hn hmx hv0 hw hw2 hw3 k1 k2 ⊢) <;> omega)⟩⟩, ⟨by rw [ht]; exact hP, va_K.moved hW.alike hK, hD⟩⟩, hS.F ht⟩) hS.2.2 d_Text_append_90
      · have hF := hF.trans (if_neg c3)
        refine lv_aload_n hx hb d_Text_append_43 rfl (lv_at hl 2 rfl) ?_
        refine va_get (D := D) (v := .int z0_2) (C := "ColonMachine$Text") (T := T_Text) (N := 5) hx hb hT i_Text hown hK hP 0 rfl rfl 2 (by decide) (hT _ fl_Text_19) (fun _ h9 => h9) rfl d_Text_append_44 ?_
        refine lv_sipush (v := 500) hx hb d_Text_append_47 (by decide) ?_
        refine lv_icmp_ge (tgt := 90) hx hb d_Text_append_50 (by decide) (fun c4 => ?_) (fun c4 => ?_)
        · have hF := hF.trans (if_pos c4)
          exact W.vret hx hb hr (fun t ht hW => ⟨⟨_, rfl, ⟨hF.symm, ⟨hv0, k2.2.1, (by have := ti_lo tb; have := ti_hi tb; have := ti_lo te; have := ti_hi te; have := ti_lo tw; have := ti_hi tw; have := ti_lo tx; have := ti_hi tx; have := ti_lo q1; have := ti_hi q1; have := ti_lo q2.1; have := ti_hi q2.1; have := ti_lo z0_2; have := ti_hi z0_2; have := ti_lo x2; have := ti_hi x2; have := ti_lo v5; have := ti_hi v5; have t0 : Int32.toInt 0 = 0 := rfl; have t8 : Int32.toInt 8 = 8 := rfl; have t500 : Int32.toInt 500 = 500 := rfl; (try simp only [true_or, or_true, true_and, and_true, z_tn, CellsOk, CallsOk, TextOk, MemOk, OutOk, Int32.lt_iff_toInt_lt, Int32.le_iff_toInt_le, ← Int32.toInt_inj, Int32.toInt_add, Int32.toInt_sub, Int32.toInt_mul, Int32.toInt_neg, zbm, zbm', t0, t8, t500] at c3 c4 hi hp hq hn hmx hv0 hw hw2 hw3 k1 k2 ⊢) <;> omega)⟩⟩, ⟨by rw [ht]; exact hP, va_K.moved hW.alike hK, hD⟩⟩, hS.F ht⟩) hS.2.2 d_Text_append_90
        · have hF := hF.trans (if_neg c4)
          refine lv_aload_n hx hb d_Text_append_53 rfl (lv_at hl 2 rfl) ?_
          refine va_get (D := D) (v := .ref a) (C := "ColonMachine$Text") (T := T_Text) (N := 5) hx hb hT i_Text hown hK hP 0 rfl rfl 0 (by decide) (hT _ fl_Text_11) (fun _ h9 => h9) rfl d_Text_append_54 ?_
          refine lv_aload_n hx hb d_Text_append_57 rfl (lv_at hl 2 rfl) ?_
          refine va_get (D := D) (v := .int z0_2) (C := "ColonMachine$Text") (T := T_Text) (N := 5) hx hb hT i_Text hown hK hP 0 rfl rfl 2 (by decide) (hT _ fl_Text_19) (fun _ h9 => h9) rfl d_Text_append_58 ?_
          refine lv_lload_n hx hb d_Text_append_61 rfl (lv_at hl 3 rfl) ?_
          refine lv_bipush (v := 8) hx hb d_Text_append_62 (by decide) ?_
          refine lv_iload hx hb d_Text_append_64 (lv_at hl 0 rfl) ?_
          refine lv_imul hx hb d_Text_append_66 ?_
          refine lv_lushr (v := (x1.toUInt64 >>> ((8 * v5).toInt64.toUInt64 &&& Int64.toUInt64 63)).toInt64) hx hb d_Text_append_67 rfl ?_
          refine lv_l2i (v := ((x1.toUInt64 >>> ((8 * v5).toInt64.toUInt64 &&& Int64.toUInt64 63)).toInt64).toInt32) hx hb d_Text_append_68 rfl ?_
          refine lv_sipush (v := 255) hx hb d_Text_append_69 (by decide) ?_
          refine lv_iand hx hb d_Text_append_72 ?_
          refine va_iast hx hb hK hP hD hS 1 0 rfl rfl (by have := ti_lo z0_2; have := ti_hi z0_2; have := ti_lo tb; have := ti_hi tb; have := ti_lo te; have := ti_hi te; have := ti_lo tw; have := ti_hi tw; have := ti_lo tx; have := ti_hi tx; have := ti_lo q1; have := ti_hi q1; have := ti_lo q2.1; have := ti_hi q2.1; have := ti_lo x2; have := ti_hi x2; have := ti_lo v5; have := ti_hi v5; have t500 : Int32.toInt 500 = 500 := rfl; have t0 : Int32.toInt 0 = 0 := rfl; have t8 : Int32.toInt 8 = 8 := rfl; rw [vp_in_iff]; (try simp only [true_or, or_true, true_and, and_true, z_tn, CellsOk, CallsOk, TextOk, MemOk, OutOk, Int32.lt_iff_toInt_lt, Int32.le_iff_toInt_le, ← Int32.toInt_inj, Int32.toInt_add, Int32.toInt_sub, Int32.toInt_mul, Int32.toInt_neg, zbm, zbm', t500, t0, t8] at c3 c4 hi hp hq hn hmx hv0 hw hw2 hw3 k1 k2 ⊢) <;> omega) d_Text_append_73 (fun H locs hP hD hS => ?_)
          have hP : va_P D classes [(h, .inr (7, [.ref a, .int q2.1, .int z0_2, .int q2.2.2.1, .int q2.2.2.2])), (a, .inl (cI, 500, .inl (upd z1_f z0_2.toNatClampNeg ((((x1.toUInt64 >>> ((8 * v5).toInt64.toUInt64 &&& Int64.toUInt64 63)).toInt64).toInt32) &&& 255))))] H := hP
          have hD : va_D A [(h, .inr (7, [.ref a, .int q2.1, .int z0_2, .int q2.2.2.1, .int q2.2.2.2])), (a, .inl (cI, 500, .inl (upd z1_f z0_2.toNatClampNeg ((((x1.toUInt64 >>> ((8 * v5).toInt64.toUInt64 &&& Int64.toUInt64 63)).toInt64).toInt32) &&& 255))))] := hD
          refine lv_aload_n hx hb d_Text_append_74 rfl (lv_at hl 2 rfl) ?_
          refine lv_dup hx hb d_Text_append_75 rfl ?_
          refine va_get (D := D) (v := .int z0_2) (C := "ColonMachine$Text") (T := T_Text) (N := 5) hx hb hT i_Text hown hK hP 0 rfl rfl 2 (by decide) (hT _ fl_Text_19) (fun _ h9 => h9) rfl d_Text_append_76 ?_
          refine lv_iconst (v := 1) hx hb d_Text_append_79 (by decide) ?_
          refine lv_iadd hx hb d_Text_append_80 ?_
          refine va_put (D := D) (v := .int (z0_2 + 1)) (ty := .int) (C := "ColonMachine$Text") (T := T_Text) (N := 5) hx hb hT i_Text t_Text tk_Text n_Text hown hK hP hD hS 0 rfl rfl 2 (by decide) (hT _ fl_Text_19) (fun _ h9 => h9) rfl (by decide +kernel) rfl rfl (Nat.le_of_ble_eq_true rfl) d_Text_append_81 (fun H locs hP hD hS => ?_)
          have hP : va_P D classes [(h, .inr (7, [.ref a, .int q2.1, .int (z0_2 + 1), .int q2.2.2.1, .int q2.2.2.2])), (a, .inl (cI, 500, .inl (upd z1_f z0_2.toNatClampNeg ((((x1.toUInt64 >>> ((8 * v5).toInt64.toUInt64 &&& Int64.toUInt64 63)).toInt64).toInt32) &&& 255))))] H := hP
          have hD : va_D A [(h, .inr (7, [.ref a, .int q2.1, .int (z0_2 + 1), .int q2.2.2.1, .int q2.2.2.2])), (a, .inl (cI, 500, .inl (upd z1_f z0_2.toNatClampNeg ((((x1.toUInt64 >>> ((8 * v5).toInt64.toUInt64 &&& Int64.toUInt64 63)).toInt64).toInt32) &&& 255))))] := hD
          refine lv_iinc (v := v5 + 1) (lv' := [(5, .int (v5 + 1)), (4, .int q1), (0, .ref h), (1, .long x1), (3, .int x2)]) hx hb d_Text_append_84 hl (k := 0) rfl rfl (by decide) rfl (fun ls hl => ?_)
          refine lv_goto (tgt := 37) hx hb d_Text_append_87 (by decide) ?_
          exact ih (v5 + 1) (z0_2 + 1) (upd z1_f z0_2.toNatClampNeg ((((x1.toUInt64 >>> ((8 * v5).toInt64.toUInt64 &&& Int64.toUInt64 63)).toInt64).toInt32) &&& 255)) (by have := ti_lo v5; have := ti_hi v5; have := ti_lo tb; have := ti_hi tb; have := ti_lo te; have := ti_hi te; have := ti_lo tw; have := ti_hi tw; have := ti_lo tx; have := ti_hi tx; have := ti_lo q1; have := ti_hi q1; have := ti_lo q2.1; have := ti_hi q2.1; have := ti_lo z0_2; have := ti_hi z0_2; have := ti_lo x2; have := ti_hi x2; have t1 : Int32.toInt 1 = 1 := rfl; have t0 : Int32.toInt 0 = 0 := rfl; have t8 : Int32.toInt 8 = 8 := rfl; have t500 : Int32.toInt 500 = 500 := rfl; (try simp only [true_or, or_true, true_and, and_true, z_tn, CellsOk, CallsOk, TextOk, MemOk, OutOk, Int32.lt_iff_toInt_lt, Int32.le_iff_toInt_le, ← Int32.toInt_inj, Int32.toInt_add, Int32.toInt_sub, Int32.toInt_mul, Int32.toInt_neg, zbm, zbm', t1, t0, t8, t500] at c3 c4 hi hp hq hn hmx hv0 hw hw2 hw3 k1 k2 hk ⊢) <;> omega) (by have := ti_lo q2.1; have := ti_hi q2.1; have := ti_lo z0_2; have := ti_hi z0_2; have := ti_lo tb; have := ti_hi tb; have := ti_lo te; have := ti_hi te; have := ti_lo tw; have := ti_hi tw; have := ti_lo tx; have := ti_hi tx; have := ti_lo q1; have := ti_hi q1; have := ti_lo x2; have := ti_hi x2; have := ti_lo v5; have := ti_hi v5; have t1 : Int32.toInt 1 = 1 := rfl; have t0 : Int32.toInt 0 = 0 := rfl; have t8 : Int32.toInt 8 = 8 := rfl; have t500 : Int32.toInt 500 = 500 := rfl; (try simp only [true_or, or_true, true_and, and_true, z_tn, CellsOk, CallsOk, TextOk, MemOk, OutOk, Int32.lt_iff_toInt_lt, Int32.le_iff_toInt_le, ← Int32.toInt_inj, Int32.toInt_add, Int32.toInt_sub, Int32.toInt_mul, Int32.toInt_neg, zbm, zbm', t1, t0, t8, t500] at c3 c4 hi hp hq hn hmx hv0 hw hw2 hw3 k1 k2 ⊢) <;> omega) (by have := ti_lo v5; have := ti_hi v5; have := ti_lo tb; have := ti_hi tb; have := ti_lo te; have := ti_hi te; have := ti_lo tw; have := ti_hi tw; have := ti_lo tx; have := ti_hi tx; have := ti_lo q1; have := ti_hi q1; have := ti_lo q2.1; have := ti_hi q2.1; have := ti_lo z0_2; have := ti_hi z0_2; have := ti_lo x2; have := ti_hi x2; have t0 : Int32.toInt 0 = 0 := rfl; have t1 : Int32.toInt 1 = 1 := rfl; have t8 : Int32.toInt 8 = 8 := rfl; have t500 : Int32.toInt 500 = 500 := rfl; (try simp only [true_or, or_true, true_and, and_true, z_tn, CellsOk, CallsOk, TextOk, MemOk, OutOk, Int32.lt_iff_toInt_lt, Int32.le_iff_toInt_le, ← Int32.toInt_inj, Int32.toInt_add, Int32.toInt_sub, Int32.toInt_mul, Int32.toInt_neg, zbm, zbm', t0, t1, t8, t500] at c3 c4 hi hp hq hn hmx hv0 hw hw2 hw3 k1 k2 ⊢) <;> omega) (by have := ti_lo z0_2; have := ti_hi z0_2; have := ti_lo v5; have := ti_hi v5; have := ti_lo tb; have := ti_hi tb; have := ti_lo te; have := ti_hi te; have := ti_lo tw; have := ti_hi tw; have := ti_lo tx; have := ti_hi tx; have := ti_lo q1; have := ti_hi q1; have := ti_lo q2.1; have := ti_hi q2.1; have := ti_lo x2; have := ti_hi x2; have t1 : Int32.toInt 1 = 1 := rfl; have t0 : Int32.toInt 0 = 0 := rfl; have t8 : Int32.toInt 8 = 8 := rfl; have t500 : Int32.toInt 500 = 500 := rfl; (try simp only [true_or, or_true, true_and, and_true, z_tn, CellsOk, CallsOk, TextOk, MemOk, OutOk, Int32.lt_iff_toInt_lt, Int32.le_iff_toInt_le, ← Int32.toInt_inj, Int32.toInt_add, Int32.toInt_sub, Int32.toInt_mul, Int32.toInt_neg, zbm, zbm', t1, t0, t8, t500] at c3 c4 hi hp hq hn hmx hv0 hw hw2 hw3 k1 k2 ⊢) <;> omega) (by have := ti_lo v5; have := ti_hi v5; have := ti_lo tb; have := ti_hi tb; have := ti_lo te; have := ti_hi te; have := ti_lo tw; have := ti_hi tw; have := ti_lo tx; have := ti_hi tx; have := ti_lo q1; have := ti_hi q1; have := ti_lo q2.1; have := ti_hi q2.1; have := ti_lo z0_2; have := ti_hi z0_2; have := ti_lo x2; have := ti_hi x2; have t1 : Int32.toInt 1 = 1 := rfl; have t0 : Int32.toInt 0 = 0 := rfl; have t8 : Int32.toInt 8 = 8 := rfl; have t500 : Int32.toInt 500 = 500 := rfl; (try simp only [true_or, or_true, true_and, and_true, z_tn, CellsOk, CallsOk, TextOk, MemOk, OutOk, Int32.lt_iff_toInt_lt, Int32.le_iff_toInt_le, ← Int32.toInt_inj, Int32.toInt_add, Int32.toInt_sub, Int32.toInt_mul, Int32.toInt_neg, zbm, zbm', t1, t0, t8, t500] at c3 c4 hi hp hq hn hmx hv0 hw hw2 hw3 k1 k2 ⊢) <;> omega) _ _ _ hP hD hS (lv_sub hl [0, 1, 2, 3, 4] rfl) hF
  exact loop (((x2.toInt - (0 : Int32).toInt).toNat) + 1) 0 q1 (va_cpy tf tf tb.toNatClampNeg (0 : Int32).toNatClampNeg q1.toNatClampNeg) (Nat.lt_succ_self _) (by have := ti_lo q2.1; have := ti_hi q2.1; have := ti_lo q1; have := ti_hi q1; have := ti_lo tb; have := ti_hi tb; have := ti_lo te; have := ti_hi te; have := ti_lo tw; have := ti_hi tw; have := ti_lo tx; have := ti_hi tx; have t0 : Int32.toInt 0 = 0 := rfl; have t8 : Int32.toInt 8 = 8 := rfl; (try simp only [true_or, or_true, true_and, and_true, z_tn, CellsOk, CallsOk, TextOk, MemOk, OutOk, Int32.lt_iff_toInt_lt, Int32.le_iff_toInt_le, ← Int32.toInt_inj, Int32.toInt_add, Int32.toInt_sub, Int32.toInt_mul, Int32.toInt_neg, zbm, zbm', t0, t8] at hi hp hq hn hmx k1 k2 ⊢) <;> omega) (by have := ti_lo tb; have := ti_hi tb; have := ti_lo te; have := ti_hi te; have := ti_lo tw; have := ti_hi tw; have := ti_lo tx; have := ti_hi tx; have := ti_lo q1; have := ti_hi q1; have t0 : Int32.toInt 0 = 0 := rfl; have t8 : Int32.toInt 8 = 8 := rfl; (try simp only [true_or, or_true, true_and, and_true, z_tn, CellsOk, CallsOk, TextOk, MemOk, OutOk, Int32.lt_iff_toInt_lt, Int32.le_iff_toInt_le, ← Int32.toInt_inj, Int32.toInt_add, Int32.toInt_sub, Int32.toInt_mul, Int32.toInt_neg, zbm, zbm', t0, t8] at hi hp hq hn hmx k1 k2 ⊢) <;> omega) (by have := ti_lo tb; have := ti_hi tb; have := ti_lo te; have := ti_hi te; have := ti_lo tw; have := ti_hi tw; have := ti_lo tx; have := ti_hi tx; have := ti_lo q1; have := ti_hi q1; have t0 : Int32.toInt 0 = 0 := rfl; have t8 : Int32.toInt 8 = 8 := rfl; (try simp only [true_or, or_true, true_and, and_true, z_tn, CellsOk, CallsOk, TextOk, MemOk, OutOk, Int32.lt_iff_toInt_lt, Int32.le_iff_toInt_le, ← Int32.toInt_inj, Int32.toInt_add, Int32.toInt_sub, Int32.toInt_mul, Int32.toInt_neg, zbm, zbm', t0, t8] at hi hp hq hn hmx k1 k2 ⊢) <;> omega) (by have := ti_lo tb; have := ti_hi tb; have := ti_lo te; have := ti_hi te; have := ti_lo tw; have := ti_hi tw; have := ti_lo tx; have := ti_hi tx; have := ti_lo q1; have := ti_hi q1; have t0 : Int32.toInt 0 = 0 := rfl; have t8 : Int32.toInt 8 = 8 := rfl; (try simp only [true_or, or_true, true_and, and_true, z_tn, CellsOk, CallsOk, TextOk, MemOk, OutOk, Int32.lt_iff_toInt_lt, Int32.le_iff_toInt_le, ← Int32.toInt_inj, Int32.toInt_add, Int32.toInt_sub, Int32.toInt_mul, Int32.toInt_neg, zbm, zbm', t0, t8] at hi hp hq hn hmx k1 k2 ⊢) <;> omega) _ _ _ hP hD hS (lv_sub hl [0, 1, 2, 3, 4] rfl) hF
/-- the picture of ColonMachine$Memory.isValid -/
def F_Memory_isValid0 (he : Int32) (x1 : Int32) : Int32 := if x1 < 0 then 0 else (if x1 < 1000 then (if x1 < he then 1 else (if x1 < 400 then 0 else 0)) else 0)
theorem F_Memory_isValid0_e (he : Int32) (x1 : Int32) : F_Memory_isValid0 he x1 = if x1 < 0 then 0 else (if x1 < 1000 then (if x1 < he then 1 else (if x1 < 400 then 0 else 0)) else 0) := rfl
set_option maxHeartbeats 4000000 in
set_option maxRecDepth 100000 in
theorem c_Memory_isValid0 (l : Launch) (D : va_G) (cI cJ cZ cW cT : ClassId) (sz : Nat) (h : Nat) (ac : Nat) (ab : Nat) (he : Int32) (fb : Nat → Int32) (x1 : Int32) (hi : MemOk he) (hp : he.toInt = 1) (hq : ∀ k : Nat, fb k = 0) : Met l y_Memory_isValid w_Memory_isValid ({ frames := 0, cells := 0, slots := 0, locals := 0 }) (va_Pc [.ref h, .int x1] (zP D classes (TY cI cJ cZ cW cT) [(h, .inr (4, [.ref ac, .ref ab, .int he])), (ab, .inl (cI, 600, .inl fb))] sz)) (va_Qi (fun (r : Int32) (_ : Unit) => r = F_Memory_isValid0 he x1 ∧ ((r.toInt = 1 ∧ x1.toInt = 0 ∨ r.toInt = 0 ∧ ¬ x1.toInt = 0) ∧ (r = 0 ∨ r = 1))) (fun _ => zB D classes (TY cI cJ cZ cW cT) (va_A [(h, .inr (4, [.ref ac, .ref ab, .int he])), (ab, .inl (cI, 600, .inl fb))] sz) [(h, .inr (4, [.ref ac, .ref ab, .int he])), (ab, .inl (cI, 600, .inl fb))]) (va_A [(h, .inr (4, [.ref ac, .ref ab, .int he])), (ab, .inl (cI, 600, .inl fb))] sz)) 0 0 (va_A [(h, .inr (4, [.ref ac, .ref ab, .int he])), (ab, .inl (cI, 600, .inl fb))] sz) := by
  refine Met.ofW (cc := b_Memory_isValid) (maxL := 2) (ret := (some .boolean)) (by decide) rfl ?_
  intro p e s m args below meth c s₁ B hml hv
  obtain ⟨rfl, hsz, hP, hK, hD0, hE⟩ := hv
  have hx := B.exec
  have hb := B.bytes
  have hr := B.returns
  have hts := atoms_spec (ws := w_Memory_isValid) B.pre
  have hT : ∀ w ∈ TB, w.before _ s = true := fun w h => hts w (List.mem_cons_of_mem _ h)
  have hown : s.vm.findClass "ColonMachine$Memory" = some m.cls := findClass_of_methodNamed B.named
  have hlocks := B.notSynchronized
  subst hsz
  have hD := hD0.self (sz := s.heap.size)
  generalize hAe : va_A [(h, .inr (4, [.ref ac, .ref ab, .int he])), (ab, .inl (cI, 600, .inl fb))] s.heap.size = A at hD hE ⊢
  have hA : ∀ q : Nat, s.heap.size ≤ q → A q := fun q h => by rw [← hAe]; exact Or.inr h
  have hS : va_S A s.heap s.heap [] := va_S.rf
  have hl := lv_entry [.ref h, .int x1] (n := 2) (Nat.le_of_ble_eq_true rfl)
  rw [lg_entry_eq]
  generalize (lg_sl [.ref h, .int x1] ++ List.replicate (2 - (lg_sl [.ref h, .int x1]).length) Slot.unset).toArray = ls at hl ⊢
  have hl : lv_has ls 2 [(0, .ref h), (1, .int x1)] := hl
  have hF := F_Memory_isValid0_e he x1
  refine lv_iload_n hx hb d_Memory_isValid_0 rfl (lv_at hl 1 rfl) ?_
  refine lv_if_lt (tgt := 11) hx hb d_Memory_isValid_1 (by decide) (fun c1 => ?_) (fun c1 => ?_)
  · have hF := hF.trans (if_pos c1)
    refine lv_iconst (v := 0) hx hb d_Memory_isValid_11 (by decide) ?_
    exact W.zret (v := 0) hx hb hr rfl (fun t ht hW => ⟨⟨_, (), rfl, ⟨hF.symm, ⟨(by have := ti_lo he; have := ti_hi he; have := ti_lo x1; have := ti_hi x1; have t0 : Int32.toInt 0 = 0 := rfl; have t1 : Int32.toInt 1 = 1 := rfl; (try simp only [true_or, or_true, true_and, and_true, z_tn, CellsOk, CallsOk, TextOk, MemOk, OutOk, Int32.lt_iff_toInt_lt, Int32.le_iff_toInt_le, ← Int32.toInt_inj, Int32.toInt_add, Int32.toInt_sub, Int32.toInt_mul, Int32.toInt_neg, zbm, zbm', t0, t1] at c1 hi hp hq ⊢) <;> omega), (Or.inl rfl)⟩⟩, ⟨by rw [ht]; exact hP, va_K.moved hW.alike hK, hD⟩⟩, hS.F ht⟩) hS.2.2 d_Memory_isValid_12
  · have hF := hF.trans (if_neg c1)
    refine lv_iload_n hx hb d_Memory_isValid_4 rfl (lv_at hl 1 rfl) ?_
    refine lv_sipush (v := 1000) hx hb d_Memory_isValid_5 (by decide) ?_
    refine lv_icmp_lt (tgt := 13) hx hb d_Memory_isValid_8 (by decide) (fun c2 => ?_) (fun c2 => ?_)
    · have hF := hF.trans (if_pos c2)
      refine lv_iload_n hx hb d_Memory_isValid_13 rfl (lv_at hl 1 rfl) ?_
      refine lv_aload_n hx hb d_Memory_isValid_14 rfl (lv_at hl 0 rfl) ?_
      refine va_get (D := D) (v := .int he) (C := "ColonMachine$Memory") (T := T_Memory) (N := 3) hx hb hT i_Memory hown hK hP 0 rfl rfl 2 (by decide) (hT _ fl_Memory_16) (fun _ h9 => h9) rfl d_Memory_isValid_15 ?_
      refine lv_icmp_lt (tgt := 41) hx hb d_Memory_isValid_18 (by decide) (fun c3 => ?_) (fun c3 => ?_)
      · have hF := hF.trans (if_pos c3)
        refine lv_iconst (v := 1) hx hb d_Memory_isValid_41 (by decide) ?_
        refine lv_goto (tgt := 46) hx hb d_Memory_isValid_42 (by decide) ?_
        exact W.zret (v := 1) hx hb hr rfl (fun t ht hW => ⟨⟨_, (), rfl, ⟨hF.symm, ⟨(by have := ti_lo he; have := ti_hi he; have := ti_lo x1; have := ti_hi x1; have t1 : Int32.toInt 1 = 1 := rfl; have t0 : Int32.toInt 0 = 0 := rfl; have t1000 : Int32.toInt 1000 = 1000 := rfl; (try simp only [true_or, or_true, true_and, and_true, z_tn, CellsOk, CallsOk, TextOk, MemOk, OutOk, Int32.lt_iff_toInt_lt, Int32.le_iff_toInt_le, ← Int32.toInt_inj, Int32.toInt_add, Int32.toInt_sub, Int32.toInt_mul, Int32.toInt_neg, zbm, zbm', t1, t0, t1000] at c1 c2 c3 hi hp hq ⊢) <;> omega), (Or.inr rfl)⟩⟩, ⟨by rw [ht]; exact hP, va_K.moved hW.alike hK, hD⟩⟩, hS.F ht⟩) hS.2.2 d_Memory_isValid_46
      · have hF := hF.trans (if_neg c3)
        refine lv_iload_n hx hb d_Memory_isValid_21 rfl (lv_at hl 1 rfl) ?_
        refine lv_sipush (v := 400) hx hb d_Memory_isValid_22 (by decide) ?_
        refine lv_icmp_lt (tgt := 45) hx hb d_Memory_isValid_25 (by decide) (fun c4 => ?_) (fun c4 => ?_)
        · have hF := hF.trans (if_pos c4)
          refine lv_iconst (v := 0) hx hb d_Memory_isValid_45 (by decide) ?_
          exact W.zret (v := 0) hx hb hr rfl (fun t ht hW => ⟨⟨_, (), rfl, ⟨hF.symm, ⟨(by have := ti_lo he; have := ti_hi he; have := ti_lo x1; have := ti_hi x1; have t0 : Int32.toInt 0 = 0 := rfl; have t1 : Int32.toInt 1 = 1 := rfl; have t1000 : Int32.toInt 1000 = 1000 := rfl; have t400 : Int32.toInt 400 = 400 := rfl; (try simp only [true_or, or_true, true_and, and_true, z_tn, CellsOk, CallsOk, TextOk, MemOk, OutOk, Int32.lt_iff_toInt_lt, Int32.le_iff_toInt_le, ← Int32.toInt_inj, Int32.toInt_add, Int32.toInt_sub, Int32.toInt_mul, Int32.toInt_neg, zbm, zbm', t0, t1, t1000, t400] at c1 c2 c3 c4 hi hp hq ⊢) <;> omega), (Or.inl rfl)⟩⟩, ⟨by rw [ht]; exact hP, va_K.moved hW.alike hK, hD⟩⟩, hS.F ht⟩) hS.2.2 d_Memory_isValid_46
        · have hF := hF.trans (if_neg c4)
          refine lv_aload_n hx hb d_Memory_isValid_28 rfl (lv_at hl 0 rfl) ?_
          refine va_get (D := D) (v := .ref ab) (C := "ColonMachine$Memory") (T := T_Memory) (N := 3) hx hb hT i_Memory hown hK hP 0 rfl rfl 1 (by decide) (hT _ fl_Memory_13) (fun _ h9 => h9) rfl d_Memory_isValid_29 ?_
          refine lv_iload_n hx hb d_Memory_isValid_32 rfl (lv_at hl 1 rfl) ?_
          refine lv_sipush (v := 400) hx hb d_Memory_isValid_33 (by decide) ?_
          refine lv_isub hx hb d_Memory_isValid_36 ?_
          refine va_iald hx hb hK hP 1 0 rfl rfl (by have := ti_lo x1; have := ti_hi x1; have := ti_lo he; have := ti_hi he; have t400 : Int32.toInt 400 = 400 := rfl; have t600 : Int32.toInt 600 = 600 := rfl; have t1 : Int32.toInt 1 = 1 := rfl; have t0 : Int32.toInt 0 = 0 := rfl; have t1000 : Int32.toInt 1000 = 1000 := rfl; rw [vp_in_iff]; (try simp only [true_or, or_true, true_and, and_true, z_tn, CellsOk, CallsOk, TextOk, MemOk, OutOk, Int32.lt_iff_toInt_lt, Int32.le_iff_toInt_le, ← Int32.toInt_inj, Int32.toInt_add, Int32.toInt_sub, Int32.toInt_mul, Int32.toInt_neg, zbm, zbm', t400, t600, t1, t0, t1000] at c1 c2 c3 c4 hi hp hq ⊢) <;> omega) d_Memory_isValid_37 ?_
          refine lv_if_eq (tgt := 45) hx hb d_Memory_isValid_38 (by decide) (fun c5 => ?_) (fun c5 => ?_)
          · refine lv_iconst (v := 0) hx hb d_Memory_isValid_45 (by decide) ?_
            exact W.zret (v := 0) hx hb hr rfl (fun t ht hW => ⟨⟨_, (), rfl, ⟨hF.symm, ⟨(by have := ti_lo he; have := ti_hi he; have := ti_lo x1; have := ti_hi x1; have t0 : Int32.toInt 0 = 0 := rfl; have t1 : Int32.toInt 1 = 1 := rfl; have t1000 : Int32.toInt 1000 = 1000 := rfl; have t400 : Int32.toInt 400 = 400 := rfl; (try simp only [true_or, or_true, true_and, and_true, z_tn, CellsOk, CallsOk, TextOk, MemOk, OutOk, Int32.lt_iff_toInt_lt, Int32.le_iff_toInt_le, ← Int32.toInt_inj, Int32.toInt_add, Int32.toInt_sub, Int32.toInt_mul, Int32.toInt_neg, zbm, zbm', t0, t1, t1000, t400] at c1 c2 c3 c4 c5 hi hp hq ⊢) <;> omega), (Or.inl rfl)⟩⟩, ⟨by rw [ht]; exact hP, va_K.moved hW.alike hK, hD⟩⟩, hS.F ht⟩) hS.2.2 d_Memory_isValid_46
          · exact False.elim (c5 (hq _))
    · have hF := hF.trans (if_neg c2)
      refine lv_iconst (v := 0) hx hb d_Memory_isValid_11 (by decide) ?_
      exact W.zret (v := 0) hx hb hr rfl (fun t ht hW => ⟨⟨_, (), rfl, ⟨hF.symm, ⟨(by have := ti_lo he; have := ti_hi he; have := ti_lo x1; have := ti_hi x1; have t0 : Int32.toInt 0 = 0 := rfl; have t1 : Int32.toInt 1 = 1 := rfl; have t1000 : Int32.toInt 1000 = 1000 := rfl; (try simp only [true_or, or_true, true_and, and_true, z_tn, CellsOk, CallsOk, TextOk, MemOk, OutOk, Int32.lt_iff_toInt_lt, Int32.le_iff_toInt_le, ← Int32.toInt_inj, Int32.toInt_add, Int32.toInt_sub, Int32.toInt_mul, Int32.toInt_neg, zbm, zbm', t0, t1, t1000] at c1 c2 hi hp hq ⊢) <;> omega), (Or.inl rfl)⟩⟩, ⟨by rw [ht]; exact hP, va_K.moved hW.alike hK, hD⟩⟩, hS.F ht⟩) hS.2.2 d_Memory_isValid_12
/-- the picture of ColonMachine$Memory.read -/
def F_Memory_read0 (fc : Nat → Int32) (x1 : Int32) : Int32 := fc x1.toNatClampNeg
theorem F_Memory_read0_e (fc : Nat → Int32) (x1 : Int32) : F_Memory_read0 fc x1 = fc x1.toNatClampNeg := rfl
set_option maxHeartbeats 4000000 in
set_option maxRecDepth 100000 in
theorem c_Memory_read0 (l : Launch) (D : va_G) (cI cJ cZ cW cT : ClassId) (sz : Nat) (h : Nat) (ac : Nat) (ab : Nat) (he : Int32) (fc : Nat → Int32) (x1 : Int32) (hi : MemOk he) (hn : x1.toInt = 0) : Met l y_Memory_read w_Memory_read ({ frames := 0, cells := 0, slots := 0, locals := 0 }) (va_Pc [.ref h, .int x1] (zP D classes (TY cI cJ cZ cW cT) [(h, .inr (4, [.ref ac, .ref ab, .int he])), (ac, .inl (cI, 1000, .inl fc))] sz)) (va_Qi (fun (r : Int32) (_ : Unit) => r = F_Memory_read0 fc x1 ∧ ((r.toInt = (fc 0).toInt))) (fun _ => zB D classes (TY cI cJ cZ cW cT) (va_A [(h, .inr (4, [.ref ac, .ref ab, .int he])), (ac, .inl (cI, 1000, .inl fc))] sz) [(h, .inr (4, [.ref ac, .ref ab, .int he])), (ac, .inl (cI, 1000, .inl fc))]) (va_A [(h, .inr (4, [.ref ac, .ref ab, .int he])), (ac, .inl (cI, 1000, .inl fc))] sz)) 0 0 (va_A [(h, .inr (4, [.ref ac, .ref ab, .int he])), (ac, .inl (cI, 1000, .inl fc))] sz) := by
  refine Met.ofW (cc := b_Memory_read) (maxL := 2) (ret := (some .int)) (by decide) rfl ?_
  intro p e s m args below meth c s₁ B hml hv
  obtain ⟨rfl, hsz, hP, hK, hD0, hE⟩ := hv
  have hx := B.exec
  have hb := B.bytes
  have hr := B.returns
  have hts := atoms_spec (ws := w_Memory_read) B.pre
  have hT : ∀ w ∈ TB, w.before _ s = true := fun w h => hts w (List.mem_cons_of_mem _ h)
  have hown : s.vm.findClass "ColonMachine$Memory" = some m.cls := findClass_of_methodNamed B.named
  have hlocks := B.notSynchronized
  subst hsz
  have hD := hD0.self (sz := s.heap.size)
  generalize hAe : va_A [(h, .inr (4, [.ref ac, .ref ab, .int he])), (ac, .inl (cI, 1000, .inl fc))] s.heap.size = A at hD hE ⊢
  have hA : ∀ q : Nat, s.heap.size ≤ q → A q := fun q h => by rw [← hAe]; exact Or.inr h
  have hS : va_S A s.heap s.heap [] := va_S.rf
  have hl := lv_entry [.ref h, .int x1] (n := 2) (Nat.le_of_ble_eq_true rfl)
  rw [lg_entry_eq]
  generalize (lg_sl [.ref h, .int x1] ++ List.replicate (2 - (lg_sl [.ref h, .int x1]).length) Slot.unset).toArray = ls at hl ⊢
  have hl : lv_has ls 2 [(0, .ref h), (1, .int x1)] := hl
  have hF := F_Memory_read0_e fc x1
  refine lv_iload_n hx hb d_Memory_read_0 rfl (lv_at hl 1 rfl) ?_
  refine lv_if_lt (tgt := 20) hx hb d_Memory_read_1 (by decide) (fun c1 => ?_) (fun c1 => ?_)
  · exact False.elim (by have := ti_lo he; have := ti_hi he; have := ti_lo x1; have := ti_hi x1; have t0 : Int32.toInt 0 = 0 := rfl; (try simp only [true_or, or_true, true_and, and_true, z_tn, CellsOk, CallsOk, TextOk, MemOk, OutOk, Int32.lt_iff_toInt_lt, Int32.le_iff_toInt_le, ← Int32.toInt_inj, Int32.toInt_add, Int32.toInt_sub, Int32.toInt_mul, Int32.toInt_neg, zbm, zbm', t0] at c1 hi hn) <;> omega)
  · refine lv_iload_n hx hb d_Memory_read_4 rfl (lv_at hl 1 rfl) ?_
    refine lv_sipush (v := 1000) hx hb d_Memory_read_5 (by decide) ?_
    refine lv_icmp_ge (tgt := 20) hx hb d_Memory_read_8 (by decide) (fun c2 => ?_) (fun c2 => ?_)
    · exact False.elim (by have := ti_lo he; have := ti_hi he; have := ti_lo x1; have := ti_hi x1; have t0 : Int32.toInt 0 = 0 := rfl; have t1000 : Int32.toInt 1000 = 1000 := rfl; (try simp only [true_or, or_true, true_and, and_true, z_tn, CellsOk, CallsOk, TextOk, MemOk, OutOk, Int32.lt_iff_toInt_lt, Int32.le_iff_toInt_le, ← Int32.toInt_inj, Int32.toInt_add, Int32.toInt_sub, Int32.toInt_mul, Int32.toInt_neg, zbm, zbm', t0, t1000] at c1 c2 hi hn) <;> omega)
    · refine lv_aload_n hx hb d_Memory_read_11 rfl (lv_at hl 0 rfl) ?_
      refine va_get (D := D) (v := .ref ac) (C := "ColonMachine$Memory") (T := T_Memory) (N := 3) hx hb hT i_Memory hown hK hP 0 rfl rfl 0 (by decide) (hT _ fl_Memory_9) (fun _ h9 => h9) rfl d_Memory_read_12 ?_
      refine lv_iload_n hx hb d_Memory_read_15 rfl (lv_at hl 1 rfl) ?_
      refine va_iald hx hb hK hP 1 0 rfl rfl (by have := ti_lo x1; have := ti_hi x1; have := ti_lo he; have := ti_hi he; have t1000 : Int32.toInt 1000 = 1000 := rfl; have t0 : Int32.toInt 0 = 0 := rfl; rw [vp_in_iff]; (try simp only [true_or, or_true, true_and, and_true, z_tn, CellsOk, CallsOk, TextOk, MemOk, OutOk, Int32.lt_iff_toInt_lt, Int32.le_iff_toInt_le, ← Int32.toInt_inj, Int32.toInt_add, Int32.toInt_sub, Int32.toInt_mul, Int32.toInt_neg, zbm, zbm', t1000, t0] at c1 c2 hi hn ⊢) <;> omega) d_Memory_read_16 ?_
      refine lv_goto (tgt := 21) hx hb d_Memory_read_17 (by decide) ?_
      exact W.iret (v := fc x1.toNatClampNeg) hx hb hr (fun t ht hW => ⟨⟨_, (), rfl, ⟨hF.symm, (z_at0 hn)⟩, ⟨by rw [ht]; exact hP, va_K.moved hW.alike hK, hD⟩⟩, hS.F ht⟩) hS.2.2 d_Memory_read_21
/-- the picture of ColonMachine.feed -/
def F_Mach_feed0 (tb : Int32) (te : Int32) (tf : Nat → Int32) (x1 : Int64) (x2 : Int32) : Int32 × Int32 × Int32 × Int32 × Int32 × (Nat → Int32) := bd (F_Text_hasRoomFor tb te x2) (fun q3 => bd (F_Text_append0 tb te tf x1 x2) (fun q5 => bd (F_Text_size q5.1 q5.2.1) (fun q6 => (q6, (q5.1, q5.2.1, q5.2.2.1, q5.2.2.2.1, q5.2.2.2.2)))))
theorem F_Mach_feed0_e (tb : Int32) (te : Int32) (tf : Nat → Int32) (x1 : Int64) (x2 : Int32) : F_Mach_feed0 tb te tf x1 x2 = bd (F_Text_hasRoomFor tb te x2) (fun q3 => bd (F_Text_append0 tb te tf x1 x2) (fun q5 => bd (F_Text_size q5.1 q5.2.1) (fun q6 => (q6, (q5.1, q5.2.1, q5.2.2.1, q5.2.2.2.1, q5.2.2.2.2))))) := rfl
set_option maxHeartbeats 4000000 in
set_option maxRecDepth 100000 in
theorem c_Mach_feed0 (l : Launch) (D : va_G) (cI cJ cZ cW cT : ClassId) (sz : Nat) (hm : Nat) (dd : Nat) (rr : Nat) (kc : Nat) (mm : Nat) (oo : Nat) (tt : Nat) (ww : Nat) (kk : Nat) (pp : Nat) (ta : Nat) (lc : Int32) (tb : Int32) (te : Int32) (tw : Int32) (tx : Int32) (tf : Nat → Int32) (x1 : Int64) (x2 : Int32) (hit : TextOk tb te tw tx) (hp : tb.toInt = 0) (hq : te.toInt = 0) (hn : 1 ≤ x2.toInt) (hmx : x2.toInt ≤ 8) : Met l y_Mach_feed w_Mach_feed ({ frames := 2, cells := 0, slots := 0, locals := 51 }) (va_Pc [.ref hm, .long x1, .int x2] (zP D classes (TY cI cJ cZ cW cT) [(hm, .inr (10, [.ref dd, .ref rr, .ref kc, .ref mm, .ref oo, .ref tt, .ref ww, .ref kk, .ref pp, .int lc])), (tt, .inr (7, [.ref ta, .int tb, .int te, .int tw, .int tx])), (ta, .inl (cI, 500, .inl tf))] sz)) (va_Qi (fun (r : Int32) (u : Int32 × Int32 × Int32 × Int32 × (Nat → Int32)) => (r, u) = F_Mach_feed0 tb te tf x1 x2 ∧ ((TextOk u.1 u.2.1 u.2.2.1 u.2.2.2.1) ∧ (r.toInt = x2.toInt))) (fun u => zB D classes (TY cI cJ cZ cW cT) (va_A [(hm, .inr (10, [.ref dd, .ref rr, .ref kc, .ref mm, .ref oo, .ref tt, .ref ww, .ref kk, .ref pp, .int lc])), (tt, .inr (7, [.ref ta, .int tb, .int te, .int tw, .int tx])), (ta, .inl (cI, 500, .inl tf))] sz) [(hm, .inr (10, [.ref dd, .ref rr, .ref kc, .ref mm, .ref oo, .ref tt, .ref ww, .ref kk, .ref pp, .int lc])), (tt, .inr (7, [.ref ta, .int u.1, .int u.2.1, .int u.2.2.1, .int u.2.2.2.1])), (ta, .inl (cI, 500, .inl u.2.2.2.2))]) (va_A [(hm, .inr (10, [.ref dd, .ref rr, .ref kc, .ref mm, .ref oo, .ref tt, .ref ww, .ref kk, .ref pp, .int lc])), (tt, .inr (7, [.ref ta, .int tb, .int te, .int tw, .int tx])), (ta, .inl (cI, 500, .inl tf))] sz)) 0 0 (va_A [(hm, .inr (10, [.ref dd, .ref rr, .ref kc, .ref mm, .ref oo, .ref tt, .ref ww, .ref kk, .ref pp, .int lc])), (tt, .inr (7, [.ref ta, .int tb, .int te, .int tw, .int tx])), (ta, .inl (cI, 500, .inl tf))] sz) := by
  refine Met.ofW (cc := b_Mach_feed) (maxL := 4) (ret := (some .int)) (by decide) rfl ?_
  intro p e s m args below meth c s₁ B hml hv
  obtain ⟨rfl, hsz, hP, hK, hD0, hE⟩ := hv
  have hx := B.exec
  have hb := B.bytes
  have hr := B.returns
  have hts := atoms_spec (ws := w_Mach_feed) B.pre
  have hT : ∀ w ∈ TB, w.before _ s = true := fun w h => hts w (List.mem_cons_of_mem _ h)
  have hown : s.vm.findClass "ColonMachine" = some m.cls := findClass_of_methodNamed B.named
  have hlocks := B.notSynchronized
  subst hsz
  have hD := hD0.self (sz := s.heap.size)
  generalize hAe : va_A [(hm, .inr (10, [.ref dd, .ref rr, .ref kc, .ref mm, .ref oo, .ref tt, .ref ww, .ref kk, .ref pp, .int lc])), (tt, .inr (7, [.ref ta, .int tb, .int te, .int tw, .int tx])), (ta, .inl (cI, 500, .inl tf))] s.heap.size = A at hD hE ⊢
  have hA : ∀ q : Nat, s.heap.size ≤ q → A q := fun q h => by rw [← hAe]; exact Or.inr h
  have hS : va_S A s.heap s.heap [] := va_S.rf
  have hl := lv_entry [.ref hm, .long x1, .int x2] (n := 4) (Nat.le_of_ble_eq_true rfl)
  rw [lg_entry_eq]
  generalize (lg_sl [.ref hm, .long x1, .int x2] ++ List.replicate (4 - (lg_sl [.ref hm, .long x1, .int x2]).length) Slot.unset).toArray = ls at hl ⊢
  have hl : lv_has ls 4 [(0, .ref hm), (1, .long x1), (3, .int x2)] := hl
  have hF := F_Mach_feed0_e tb te tf x1 x2
  refine lv_iload_n hx hb d_Mach_feed_0 rfl (lv_at hl 2 rfl) ?_
  refine lv_iconst (v := 1) hx hb d_Mach_feed_1 (by decide) ?_
  refine lv_icmp_lt (tgt := 11) hx hb d_Mach_feed_2 (by decide) (fun c1 => ?_) (fun c1 => ?_)
  · exact False.elim (by have := ti_lo tb; have := ti_hi tb; have := ti_lo te; have := ti_hi te; have := ti_lo tw; have := ti_hi tw; have := ti_lo tx; have := ti_hi tx; have := ti_lo x2; have := ti_hi x2; have t0 : Int32.toInt 0 = 0 := rfl; have t1 : Int32.toInt 1 = 1 := rfl; have t8 : Int32.toInt 8 = 8 := rfl; (try simp only [true_or, or_true, true_and, and_true, z_tn, CellsOk, CallsOk, TextOk, MemOk, OutOk, Int32.lt_iff_toInt_lt, Int32.le_iff_toInt_le, ← Int32.toInt_inj, Int32.toInt_add, Int32.toInt_sub, Int32.toInt_mul, Int32.toInt_neg, zbm, zbm', t0, t1, t8] at c1 hit hp hq hn hmx) <;> omega)
  · refine lv_iload_n hx hb d_Mach_feed_5 rfl (lv_at hl 2 rfl) ?_
    refine lv_bipush (v := 8) hx hb d_Mach_feed_6 (by decide) ?_
    refine lv_icmp_le (tgt := 21) hx hb d_Mach_feed_8 (by decide) (fun c2 => ?_) (fun c2 => ?_)
    · refine lv_aload_n hx hb d_Mach_feed_21 rfl (lv_at hl 0 rfl) ?_
      refine va_get (D := D) (v := .ref tt) (C := "ColonMachine") (T := T_Mach) (N := 10) hx hb hT i_Mach hown hK hP 0 rfl rfl 5 (by decide) (hT _ fl_Mach_45) (fun _ h9 => h9) rfl d_Mach_feed_22 ?_
      refine lv_iload_n hx hb d_Mach_feed_25 rfl (lv_at hl 2 rfl) ?_
      refine kN_pi (wr := [(hm, .inr (10, [.ref dd, .ref rr, .ref kc, .ref mm, .ref oo, .ref tt, .ref ww, .ref kk, .ref pp, .int lc])), (ta, .inl (cI, 500, .inl tf))]) (zV (wc := [(tt, .inr (7, [.ref ta, .int tb, .int te, .int tw, .int tx]))]) (As := [.int x2]) (rest := []) (st0 := [.int x2, .ref tt]) ⟨hx, hb, hml, hown, hT⟩ (c_Text_hasRoomFor l D cI cJ cZ cW cT s.heap.size tt ta tb te tw tx x2 hit) (cwV 1 hT (tbV ml_Mach_85 im_Text_hasRoomFor se_Text_hasRoomFor in_Text co_Text_hasRoomFor) rfl rfl rfl v_Text_hasRoomFor ⟨Nat.le_of_ble_eq_true rfl, Nat.le_of_ble_eq_true rfl⟩) hK hE hP hD hS hA [1] rfl rfl 0 rfl rfl rfl hl.1 rfl (Nat.le_of_ble_eq_true rfl) d_Mach_feed_26 ⟨Nat.le_of_ble_eq_true rfl, Nat.le_of_ble_eq_true rfl⟩) hP hD hS hA [1] [0, 2] rfl rfl rfl (by decide) [0, 2, 1] rfl rfl (fun q3 H locs e3 k3 hP hD hS => ?_)
      have hP : va_P D classes [(hm, .inr (10, [.ref dd, .ref rr, .ref kc, .ref mm, .ref oo, .ref tt, .ref ww, .ref kk, .ref pp, .int lc])), (tt, .inr (7, [.ref ta, .int tb, .int te, .int tw, .int tx])), (ta, .inl (cI, 500, .inl tf))] H := hP
      have hD : va_D A [(hm, .inr (10, [.ref dd, .ref rr, .ref kc, .ref mm, .ref oo, .ref tt, .ref ww, .ref kk, .ref pp, .int lc])), (tt, .inr (7, [.ref ta, .int tb, .int te, .int tw, .int tx])), (ta, .inl (cI, 500, .inl tf))] := hD
      have hF := hF.trans (bd_e e3)
      refine lv_if_ne (tgt := 42) hx hb d_Mach_feed_29 (by decide) (fun c4 => ?_) (fun c4 => ?_)
      · refine lv_aload_n hx hb d_Mach_feed_42 rfl (lv_at hl 0 rfl) ?_
        refine va_get (D := D) (v := .ref tt) (C := "ColonMachine") (T := T_Mach) (N := 10) hx hb hT i_Mach hown hK hP 0 rfl rfl 5 (by decide) (hT _ fl_Mach_45) (fun _ h9 => h9) rfl d_Mach_feed_43 ?_
        refine lv_lload_n hx hb d_Mach_feed_46 rfl (lv_at hl 1 rfl) ?_
        refine lv_iload_n hx hb d_Mach_feed_47 rfl (lv_at hl 2 rfl) ?_
        refine kN_sv (wr := [(hm, .inr (10, [.ref dd, .ref rr, .ref kc, .ref mm, .ref oo, .ref tt, .ref ww, .ref kk, .ref pp, .int lc]))]) (fun u : Int32 × Int32 × Int32 × Int32 × (Nat → Int32) => [(hm, .inr (10, [.ref dd, .ref rr, .ref kc, .ref mm, .ref oo, .ref tt, .ref ww, .ref kk, .ref pp, .int lc])), (tt, .inr (7, [.ref ta, .int u.1, .int u.2.1, .int u.2.2.1, .int u.2.2.2.1])), (ta, .inl (cI, 500, .inl u.2.2.2.2))]) (zV (wc := [(tt, .inr (7, [.ref ta, .int tb, .int te, .int tw, .int tx])), (ta, .inl (cI, 500, .inl tf))]) (As := [.long x1, .int x2]) (rest := []) (st0 := [.int x2, .long x1, .ref tt]) ⟨hx, hb, hml, hown, hT⟩ (c_Text_append0 l D cI cJ cZ cW cT H.size tt ta tb te tw tx tf x1 x2 hit hp hq (by have := ti_lo tb; have := ti_hi tb; have := ti_lo te; have := ti_hi te; have := ti_lo tw; have := ti_hi tw; have := ti_lo tx; have := ti_hi tx; have := ti_lo x2; have := ti_hi x2; have := ti_lo q3; have := ti_hi q3; have t0 : Int32.toInt 0 = 0 := rfl; have t1 : Int32.toInt 1 = 1 := rfl; have t8 : Int32.toInt 8 = 8 := rfl; have t500 : Int32.toInt 500 = 500 := rfl; (try simp only [true_or, or_true, true_and, and_true, z_tn, CellsOk, CallsOk, TextOk, MemOk, OutOk, Int32.lt_iff_toInt_lt, Int32.le_iff_toInt_le, ← Int32.toInt_inj, Int32.toInt_add, Int32.toInt_sub, Int32.toInt_mul, Int32.toInt_neg, zbm, zbm', t0, t1, t8, t500] at c1 c2 c4 hit hp hq hn hmx k3 ⊢) <;> omega) hmx) (cwV 2 hT (tbV ml_Mach_94 im_Text_append se_Text_append in_Text co_Text_append) rfl rfl rfl v_Text_append ⟨Nat.le_of_ble_eq_true rfl, Nat.le_of_ble_eq_true rfl⟩) hK hE hP hD hS hA [1, 2] rfl rfl 0 rfl rfl rfl hl.1 rfl (Nat.le_of_ble_eq_true rfl) d_Mach_feed_48 ⟨Nat.le_of_ble_eq_true rfl, Nat.le_of_ble_eq_true rfl⟩) hP hD hS hA [1, 2] [0] rfl rfl rfl (by decide) [0, 1, 2] rfl (fun u => rfl) (fun q5 H locs e5 k5 hP hD hS => ?_)
        have hP : va_P D classes [(hm, .inr (10, [.ref dd, .ref rr, .ref kc, .ref mm, .ref oo, .ref tt, .ref ww, .ref kk, .ref pp, .int lc])), (tt, .inr (7, [.ref ta, .int q5.1, .int q5.2.1, .int q5.2.2.1, .int q5.2.2.2.1])), (ta, .inl (cI, 500, .inl q5.2.2.2.2))] H := hP
        have hD : va_D A [(hm, .inr (10, [.ref dd, .ref rr, .ref kc, .ref mm, .ref oo, .ref tt, .ref ww, .ref kk, .ref pp, .int lc])), (tt, .inr (7, [.ref ta, .int q5.1, .int q5.2.1, .int q5.2.2.1, .int q5.2.2.2.1])), (ta, .inl (cI, 500, .inl q5.2.2.2.2))] := hD
        have hF := hF.trans (bd_e e5)
        refine lv_aload_n hx hb d_Mach_feed_51 rfl (lv_at hl 0 rfl) ?_
        refine va_get (D := D) (v := .ref tt) (C := "ColonMachine") (T := T_Mach) (N := 10) hx hb hT i_Mach hown hK hP 0 rfl rfl 5 (by decide) (hT _ fl_Mach_45) (fun _ h9 => h9) rfl d_Mach_feed_52 ?_
        refine kN_pi (wr := [(hm, .inr (10, [.ref dd, .ref rr, .ref kc, .ref mm, .ref oo, .ref tt, .ref ww, .ref kk, .ref pp, .int lc])), (ta, .inl (cI, 500, .inl q5.2.2.2.2))]) (zV (wc := [(tt, .inr (7, [.ref ta, .int q5.1, .int q5.2.1, .int q5.2.2.1, .int q5.2.2.2.1]))]) (As := []) (rest := []) (st0 := [.ref tt]) ⟨hx, hb, hml, hown, hT⟩ (c_Text_size l D cI cJ cZ cW cT H.size tt ta q5.1 q5.2.1 q5.2.2.1 q5.2.2.2.1 k5.1) (cwV 0 hT (tbV ml_Mach_98 im_Text_size se_Text_size in_Text co_Text_size) rfl rfl rfl v_Text_size ⟨Nat.le_of_ble_eq_true rfl, Nat.le_of_ble_eq_true rfl⟩) hK hE hP hD hS hA [1] rfl rfl 0 rfl rfl rfl hl.1 rfl (Nat.le_of_ble_eq_true rfl) d_Mach_feed_55 ⟨Nat.le_of_ble_eq_true rfl, Nat.le_of_ble_eq_true rfl⟩) hP hD hS hA [1] [0, 2] rfl rfl rfl (by decide) [0, 2, 1] rfl rfl (fun q6 H locs e6 k6 hP hD hS => ?_)
        have hP : va_P D classes [(hm, .inr (10, [.ref dd, .ref rr, .ref kc, .ref mm, .ref oo, .ref tt, .ref ww, .ref kk, .ref pp, .int lc])), (tt, .inr (7, [.ref ta, .int q5.1, .int q5.2.1, .int q5.2.2.1, .int q5.2.2.2.1])), (ta, .inl (cI, 500, .inl q5.2.2.2.2))] H := hP
        have hD : va_D A [(hm, .inr (10, [.ref dd, .ref rr, .ref kc, .ref mm, .ref oo, .ref tt, .ref ww, .ref kk, .ref pp, .int lc])), (tt, .inr (7, [.ref ta, .int q5.1, .int q5.2.1, .int q5.2.2.1, .int q5.2.2.2.1])), (ta, .inl (cI, 500, .inl q5.2.2.2.2))] := hD
        have hF := hF.trans (bd_e e6)
        exact W.iret (v := q6) hx hb hr (fun t ht hW => ⟨⟨_, _, rfl, ⟨hF.symm, ⟨k5.1, (by have := ti_lo tb; have := ti_hi tb; have := ti_lo te; have := ti_hi te; have := ti_lo tw; have := ti_hi tw; have := ti_lo tx; have := ti_hi tx; have := ti_lo x2; have := ti_hi x2; have := ti_lo q3; have := ti_hi q3; have := ti_lo q5.1; have := ti_hi q5.1; have := ti_lo q6; have := ti_hi q6; have t0 : Int32.toInt 0 = 0 := rfl; have t1 : Int32.toInt 1 = 1 := rfl; have t8 : Int32.toInt 8 = 8 := rfl; have t500 : Int32.toInt 500 = 500 := rfl; (try simp only [true_or, or_true, true_and, and_true, z_tn, CellsOk, CallsOk, TextOk, MemOk, OutOk, Int32.lt_iff_toInt_lt, Int32.le_iff_toInt_le, ← Int32.toInt_inj, Int32.toInt_add, Int32.toInt_sub, Int32.toInt_mul, Int32.toInt_neg, zbm, zbm', t0, t1, t8, t500] at c1 c2 c4 hit hp hq hn hmx k3 k5 k6 ⊢) <;> omega)⟩⟩, ⟨by rw [ht]; exact hP, va_K.moved hW.alike hK, hD⟩⟩, hS.F ht⟩) hS.2.2 d_Mach_feed_58
      · exact False.elim (by have := ti_lo tb; have := ti_hi tb; have := ti_lo te; have := ti_hi te; have := ti_lo tw; have := ti_hi tw; have := ti_lo tx; have := ti_hi tx; have := ti_lo x2; have := ti_hi x2; have := ti_lo q3; have := ti_hi q3; have t0 : Int32.toInt 0 = 0 := rfl; have t1 : Int32.toInt 1 = 1 := rfl; have t8 : Int32.toInt 8 = 8 := rfl; have t500 : Int32.toInt 500 = 500 := rfl; (try simp only [true_or, or_true, true_and, and_true, z_tn, CellsOk, CallsOk, TextOk, MemOk, OutOk, Int32.lt_iff_toInt_lt, Int32.le_iff_toInt_le, ← Int32.toInt_inj, Int32.toInt_add, Int32.toInt_sub, Int32.toInt_mul, Int32.toInt_neg, zbm, zbm', t0, t1, t8, t500] at c1 c2 c4 hit hp hq hn hmx k3) <;> omega)
    · exact False.elim (by have := ti_lo tb; have := ti_hi tb; have := ti_lo te; have := ti_hi te; have := ti_lo tw; have := ti_hi tw; have := ti_lo tx; have := ti_hi tx; have := ti_lo x2; have := ti_hi x2; have t0 : Int32.toInt 0 = 0 := rfl; have t1 : Int32.toInt 1 = 1 := rfl; have t8 : Int32.toInt 8 = 8 := rfl; (try simp only [true_or, or_true, true_and, and_true, z_tn, CellsOk, CallsOk, TextOk, MemOk, OutOk, Int32.lt_iff_toInt_lt, Int32.le_iff_toInt_le, ← Int32.toInt_inj, Int32.toInt_add, Int32.toInt_sub, Int32.toInt_mul, Int32.toInt_neg, zbm, zbm', t0, t1, t8] at c1 c2 hit hp hq hn hmx) <;> omega)
/-- the picture of ColonMachine.run -/
def F_Mach_run0 (cn : Int32) (tb : Int32) (te : Int32) (tf : Nat → Int32) : Int32 × Int32 := bd (F_Mach_nothingIsLeft cn tb te tf) (fun q4 => (0, q4.2))
theorem F_Mach_run0_e (cn : Int32) (tb : Int32) (te : Int32) (tf : Nat → Int32) : F_Mach_run0 cn tb te tf = bd (F_Mach_nothingIsLeft cn tb te tf) (fun q4 => (0, q4.2)) := rfl
set_option maxHeartbeats 4000000 in
set_option maxRecDepth 100000 in
theorem c_Mach_run0 (l : Launch) (D : va_G) (cI cJ cZ cW cT : ClassId) (sz : Nat) (hm : Nat) (dd : Nat) (rr : Nat) (kc : Nat) (mm : Nat) (oo : Nat) (tt : Nat) (ww : Nat) (kk : Nat) (pp : Nat) (ko : Nat) (kp : Nat) (kr : Nat) (kd : Nat) (ta : Nat) (lc : Int32) (cn : Int32) (tb : Int32) (te : Int32) (tw : Int32) (tx : Int32) (tf : Nat → Int32) (x1 : Int32) (hic : CallsOk cn) (hit : TextOk tb te tw tx) (hp : tb.toInt = 0) (hq : te.toInt = 0) (hc : cn.toInt = 0) (hn : 1 ≤ x1.toInt) (hmx : x1.toInt ≤ 5000) : Met l y_Mach_run w_Mach_run ({ frames := 2, cells := 0, slots := 0, locals := 40 }) (va_Pc [.ref hm, .int x1] (zP D classes (TY cI cJ cZ cW cT) [(hm, .inr (10, [.ref dd, .ref rr, .ref kc, .ref mm, .ref oo, .ref tt, .ref ww, .ref kk, .ref pp, .int lc])), (kc, .inr (0, [.ref ko, .ref kp, .ref kr, .ref kd, .int cn])), (tt, .inr (7, [.ref ta, .int tb, .int te, .int tw, .int tx])), (ta, .inl (cI, 500, .inl tf))] sz)) (va_Qi (fun (r : Int32) (u : Int32) => (r, u) = F_Mach_run0 cn tb te tf ∧ ((TextOk u te tw tx) ∧ (r.toInt = 0))) (fun u => zB D classes (TY cI cJ cZ cW cT) (va_A [(hm, .inr (10, [.ref dd, .ref rr, .ref kc, .ref mm, .ref oo, .ref tt, .ref ww, .ref kk, .ref pp, .int lc])), (kc, .inr (0, [.ref ko, .ref kp, .ref kr, .ref kd, .int cn])), (tt, .inr (7, [.ref ta, .int tb, .int te, .int tw, .int tx])), (ta, .inl (cI, 500, .inl tf))] sz) [(hm, .inr (10, [.ref dd, .ref rr, .ref kc, .ref mm, .ref oo, .ref tt, .ref ww, .ref kk, .ref pp, .int lc])), (kc, .inr (0, [.ref ko, .ref kp, .ref kr, .ref kd, .int cn])), (tt, .inr (7, [.ref ta, .int u, .int te, .int tw, .int tx])), (ta, .inl (cI, 500, .inl tf))]) (va_A [(hm, .inr (10, [.ref dd, .ref rr, .ref kc, .ref mm, .ref oo, .ref tt, .ref ww, .ref kk, .ref pp, .int lc])), (kc, .inr (0, [.ref ko, .ref kp, .ref kr, .ref kd, .int cn])), (tt, .inr (7, [.ref ta, .int tb, .int te, .int tw, .int tx])), (ta, .inl (cI, 500, .inl tf))] sz)) 0 0 (va_A [(hm, .inr (10, [.ref dd, .ref rr, .ref kc, .ref mm, .ref oo, .ref tt, .ref ww, .ref kk, .ref pp, .int lc])), (kc, .inr (0, [.ref ko, .ref kp, .ref kr, .ref kd, .int cn])), (tt, .inr (7, [.ref ta, .int tb, .int te, .int tw, .int tx])), (ta, .inl (cI, 500, .inl tf))] sz) := by
  refine Met.ofW (cc := b_Mach_run) (maxL := 4) (ret := (some .int)) (by decide) rfl ?_
  intro p e s m args below meth c s₁ B hml hv
  obtain ⟨rfl, hsz, hP, hK, hD0, hE⟩ := hv
  have hx := B.exec
  have hb := B.bytes
  have hr := B.returns
  have hts := atoms_spec (ws := w_Mach_run) B.pre
  have hT : ∀ w ∈ TB, w.before _ s = true := fun w h => hts w (List.mem_cons_of_mem _ h)
  have hown : s.vm.findClass "ColonMachine" = some m.cls := findClass_of_methodNamed B.named
  have hlocks := B.notSynchronized
  subst hsz
  have hD := hD0.self (sz := s.heap.size)
  generalize hAe : va_A [(hm, .inr (10, [.ref dd, .ref rr, .ref kc, .ref mm, .ref oo, .ref tt, .ref ww, .ref kk, .ref pp, .int lc])), (kc, .inr (0, [.ref ko, .ref kp, .ref kr, .ref kd, .int cn])), (tt, .inr (7, [.ref ta, .int tb, .int te, .int tw, .int tx])), (ta, .inl (cI, 500, .inl tf))] s.heap.size = A at hD hE ⊢
  have hA : ∀ q : Nat, s.heap.size ≤ q → A q := fun q h => by rw [← hAe]; exact Or.inr h
  have hS : va_S A s.heap s.heap [] := va_S.rf
  have hl := lv_entry [.ref hm, .int x1] (n := 4) (Nat.le_of_ble_eq_true rfl)
  rw [lg_entry_eq]
  generalize (lg_sl [.ref hm, .int x1] ++ List.replicate (4 - (lg_sl [.ref hm, .int x1]).length) Slot.unset).toArray = ls at hl ⊢
  have hl : lv_has ls 4 [(0, .ref hm), (1, .int x1)] := hl
  have hF := F_Mach_run0_e cn tb te tf
  refine lv_iload_n hx hb d_Mach_run_0 rfl (lv_at hl 1 rfl) ?_
  refine lv_iconst (v := 1) hx hb d_Mach_run_1 (by decide) ?_
  refine lv_icmp_lt (tgt := 12) hx hb d_Mach_run_2 (by decide) (fun c1 => ?_) (fun c1 => ?_)
  · exact False.elim (by have := ti_lo cn; have := ti_hi cn; have := ti_lo tb; have := ti_hi tb; have := ti_lo te; have := ti_hi te; have := ti_lo tw; have := ti_hi tw; have := ti_lo tx; have := ti_hi tx; have := ti_lo x1; have := ti_hi x1; have t0 : Int32.toInt 0 = 0 := rfl; have t1 : Int32.toInt 1 = 1 := rfl; have t5000 : Int32.toInt 5000 = 5000 := rfl; (try simp only [true_or, or_true, true_and, and_true, z_tn, CellsOk, CallsOk, TextOk, MemOk, OutOk, Int32.lt_iff_toInt_lt, Int32.le_iff_toInt_le, ← Int32.toInt_inj, Int32.toInt_add, Int32.toInt_sub, Int32.toInt_mul, Int32.toInt_neg, zbm, zbm', t0, t1, t5000] at c1 hic hit hp hq hc hn hmx) <;> omega)
  · refine lv_iload_n hx hb d_Mach_run_5 rfl (lv_at hl 1 rfl) ?_
    refine lv_sipush (v := 5000) hx hb d_Mach_run_6 (by decide) ?_
    refine lv_icmp_le (tgt := 22) hx hb d_Mach_run_9 (by decide) (fun c2 => ?_) (fun c2 => ?_)
    · refine lv_iconst (v := 0) hx hb d_Mach_run_22 (by decide) ?_
      refine lv_istore_n (lv' := [(2, .int 0), (0, .ref hm), (1, .int x1)]) hx hb d_Mach_run_23 rfl hl (by decide) rfl (fun ls hl => ?_)
      refine lv_iload_n hx hb d_Mach_run_24 rfl (lv_at hl 0 rfl) ?_
      refine lv_iload_n hx hb d_Mach_run_25 rfl (lv_at hl 2 rfl) ?_
      refine lv_icmp_ge (tgt := 85) hx hb d_Mach_run_26 (by decide) (fun c3 => ?_) (fun c3 => ?_)
      · exact False.elim (by have := ti_lo cn; have := ti_hi cn; have := ti_lo tb; have := ti_hi tb; have := ti_lo te; have := ti_hi te; have := ti_lo tw; have := ti_hi tw; have := ti_lo tx; have := ti_hi tx; have := ti_lo x1; have := ti_hi x1; have t0 : Int32.toInt 0 = 0 := rfl; have t1 : Int32.toInt 1 = 1 := rfl; have t5000 : Int32.toInt 5000 = 5000 := rfl; (try simp only [true_or, or_true, true_and, and_true, z_tn, CellsOk, CallsOk, TextOk, MemOk, OutOk, Int32.lt_iff_toInt_lt, Int32.le_iff_toInt_le, ← Int32.toInt_inj, Int32.toInt_add, Int32.toInt_sub, Int32.toInt_mul, Int32.toInt_neg, zbm, zbm', t0, t1, t5000] at c1 c2 c3 hic hit hp hq hc hn hmx) <;> omega)
      · refine lv_aload_n hx hb d_Mach_run_29 rfl (lv_at hl 1 rfl) ?_
        refine kN_si (wr := []) (fun u : Int32 => [(hm, .inr (10, [.ref dd, .ref rr, .ref kc, .ref mm, .ref oo, .ref tt, .ref ww, .ref kk, .ref pp, .int lc])), (kc, .inr (0, [.ref ko, .ref kp, .ref kr, .ref kd, .int cn])), (tt, .inr (7, [.ref ta, .int u, .int te, .int tw, .int tx])), (ta, .inl (cI, 500, .inl tf))]) (zV (wc := [(hm, .inr (10, [.ref dd, .ref rr, .ref kc, .ref mm, .ref oo, .ref tt, .ref ww, .ref kk, .ref pp, .int lc])), (kc, .inr (0, [.ref ko, .ref kp, .ref kr, .ref kd, .int cn])), (tt, .inr (7, [.ref ta, .int tb, .int te, .int tw, .int tx])), (ta, .inl (cI, 500, .inl tf))]) (As := []) (rest := []) (st0 := [.ref hm]) ⟨hx, hb, hml, hown, hT⟩ (c_Mach_nothingIsLeft l D cI cJ cZ cW cT s.heap.size hm dd rr kc mm oo tt ww kk pp ko kp kr kd ta lc cn tb te tw tx tf hic hit) (cwV 0 hT (tbV ml_Mach_104 im_Mach_nothingIsLeft se_Mach_nothingIsLeft in_Mach co_Mach_nothingIsLeft) rfl rfl rfl v_Mach_nothingIsLeft ⟨Nat.le_of_ble_eq_true rfl, Nat.le_of_ble_eq_true rfl⟩) hK hE hP hD hS hA [0, 1, 2, 3] rfl rfl 0 rfl rfl rfl hl.1 rfl (Nat.le_of_ble_eq_true rfl) d_Mach_run_30 ⟨Nat.le_of_ble_eq_true rfl, Nat.le_of_ble_eq_true rfl⟩) hP hD hS hA [0, 1, 2, 3] [] rfl rfl rfl (by decide) [0, 1, 2, 3] rfl (fun u => rfl) (fun q4 H locs e4 k4 hP hD hS => ?_)
        have hP : va_P D classes [(hm, .inr (10, [.ref dd, .ref rr, .ref kc, .ref mm, .ref oo, .ref tt, .ref ww, .ref kk, .ref pp, .int lc])), (kc, .inr (0, [.ref ko, .ref kp, .ref kr, .ref kd, .int cn])), (tt, .inr (7, [.ref ta, .int q4.2, .int te, .int tw, .int tx])), (ta, .inl (cI, 500, .inl tf))] H := hP
        have hD : va_D A [(hm, .inr (10, [.ref dd, .ref rr, .ref kc, .ref mm, .ref oo, .ref tt, .ref ww, .ref kk, .ref pp, .int lc])), (kc, .inr (0, [.ref ko, .ref kp, .ref kr, .ref kd, .int cn])), (tt, .inr (7, [.ref ta, .int q4.2, .int te, .int tw, .int tx])), (ta, .inl (cI, 500, .inl tf))] := hD
        have hF := hF.trans (bd_e e4)
        refine lv_if_eq (tgt := 38) hx hb d_Mach_run_33 (by decide) (fun c5 => ?_) (fun c5 => ?_)
        · exact False.elim (by have := ti_lo cn; have := ti_hi cn; have := ti_lo tb; have := ti_hi tb; have := ti_lo te; have := ti_hi te; have := ti_lo tw; have := ti_hi tw; have := ti_lo tx; have := ti_hi tx; have := ti_lo x1; have := ti_hi x1; have := ti_lo q4.1; have := ti_hi q4.1; have t0 : Int32.toInt 0 = 0 := rfl; have t1 : Int32.toInt 1 = 1 := rfl; have t5000 : Int32.toInt 5000 = 5000 := rfl; (try simp only [true_or, or_true, true_and, and_true, z_tn, CellsOk, CallsOk, TextOk, MemOk, OutOk, Int32.lt_iff_toInt_lt, Int32.le_iff_toInt_le, ← Int32.toInt_inj, Int32.toInt_add, Int32.toInt_sub, Int32.toInt_mul, Int32.toInt_neg, zbm, zbm', t0, t1, t5000] at c1 c2 c3 c5 hic hit hp hq hc hn hmx k4) <;> omega)
        · refine lv_iconst (v := 0) hx hb d_Mach_run_36 (by decide) ?_
          exact W.iret (v := 0) hx hb hr (fun t ht hW => ⟨⟨_, _, rfl, ⟨hF.symm, ⟨k4.1, (by have := ti_lo cn; have := ti_hi cn; have := ti_lo tb; have := ti_hi tb; have := ti_lo te; have := ti_hi te; have := ti_lo tw; have := ti_hi tw; have := ti_lo tx; have := ti_hi tx; have := ti_lo x1; have := ti_hi x1; have := ti_lo q4.1; have := ti_hi q4.1; have t0 : Int32.toInt 0 = 0 := rfl; have t1 : Int32.toInt 1 = 1 := rfl; have t5000 : Int32.toInt 5000 = 5000 := rfl; (try simp only [true_or, or_true, true_and, and_true, z_tn, CellsOk, CallsOk, TextOk, MemOk, OutOk, Int32.lt_iff_toInt_lt, Int32.le_iff_toInt_le, ← Int32.toInt_inj, Int32.toInt_add, Int32.toInt_sub, Int32.toInt_mul, Int32.toInt_neg, zbm, zbm', t0, t1, t5000] at c1 c2 c3 c5 hic hit hp hq hc hn hmx k4 ⊢) <;> omega)⟩⟩, ⟨by rw [ht]; exact hP, va_K.moved hW.alike hK, hD⟩⟩, hS.F ht⟩) hS.2.2 d_Mach_run_37
    · exact False.elim (by have := ti_lo cn; have := ti_hi cn; have := ti_lo tb; have := ti_hi tb; have := ti_lo te; have := ti_hi te; have := ti_lo tw; have := ti_hi tw; have := ti_lo tx; have := ti_hi tx; have := ti_lo x1; have := ti_hi x1; have t0 : Int32.toInt 0 = 0 := rfl; have t1 : Int32.toInt 1 = 1 := rfl; have t5000 : Int32.toInt 5000 = 5000 := rfl; (try simp only [true_or, or_true, true_and, and_true, z_tn, CellsOk, CallsOk, TextOk, MemOk, OutOk, Int32.lt_iff_toInt_lt, Int32.le_iff_toInt_le, ← Int32.toInt_inj, Int32.toInt_add, Int32.toInt_sub, Int32.toInt_mul, Int32.toInt_neg, zbm, zbm', t0, t1, t5000] at c1 c2 hic hit hp hq hc hn hmx) <;> omega)
/-- the picture of ColonMachine.push -/
def F_Mach_push0 (dn : Int32) (df : Nat → Int32) (x1 : Int32) : Int32 × (Nat → Int32) := bd (F_Cells_hasRoomFor 64 dn 1) (fun q1 => bd (F_Cells_put 64 dn df x1) (fun q3 => (q3.1, q3.2)))
theorem F_Mach_push0_e (dn : Int32) (df : Nat → Int32) (x1 : Int32) : F_Mach_push0 dn df x1 = bd (F_Cells_hasRoomFor 64 dn 1) (fun q1 => bd (F_Cells_put 64 dn df x1) (fun q3 => (q3.1, q3.2))) := rfl
set_option maxHeartbeats 4000000 in
set_option maxRecDepth 100000 in
theorem c_Mach_push0 (l : Launch) (D : va_G) (cI cJ cZ cW cT : ClassId) (sz : Nat) (hm : Nat) (dd : Nat) (rr : Nat) (kc : Nat) (mm : Nat) (oo : Nat) (tt : Nat) (ww : Nat) (kk : Nat) (pp : Nat) (da : Nat) (lc : Int32) (dn : Int32) (df : Nat → Int32) (x1 : Int32) (hid : CellsOk 64 dn) (hp : dn.toInt = 0) : Met l y_Mach_push w_Mach_push ({ frames := 1, cells := 0, slots := 0, locals := 21 }) (va_Pc [.ref hm, .int x1] (zP D classes (TY cI cJ cZ cW cT) [(hm, .inr (10, [.ref dd, .ref rr, .ref kc, .ref mm, .ref oo, .ref tt, .ref ww, .ref kk, .ref pp, .int lc])), (dd, .inr (1, [.ref da, .int dn])), (da, .inl (cI, 64, .inl df))] sz)) (va_Qv (fun u : Int32 × (Nat → Int32) => u = F_Mach_push0 dn df x1 ∧ ((CellsOk 64 u.1))) (fun u => zB D classes (TY cI cJ cZ cW cT) (va_A [(hm, .inr (10, [.ref dd, .ref rr, .ref kc, .ref mm, .ref oo, .ref tt, .ref ww, .ref kk, .ref pp, .int lc])), (dd, .inr (1, [.ref da, .int dn])), (da, .inl (cI, 64, .inl df))] sz) [(hm, .inr (10, [.ref dd, .ref rr, .ref kc, .ref mm, .ref oo, .ref tt, .ref ww, .ref kk, .ref pp, .int lc])), (dd, .inr (1, [.ref da, .int u.1])), (da, .inl (cI, 64, .inl u.2))]) (va_A [(hm, .inr (10, [.ref dd, .ref rr, .ref kc, .ref mm, .ref oo, .ref tt, .ref ww, .ref kk, .ref pp, .int lc])), (dd, .inr (1, [.ref da, .int dn])), (da, .inl (cI, 64, .inl df))] sz)) 0 0 (va_A [(hm, .inr (10, [.ref dd, .ref rr, .ref kc, .ref mm, .ref oo, .ref tt, .ref ww, .ref kk, .ref pp, .int lc])), (dd, .inr (1, [.ref da, .int dn])), (da, .inl (cI, 64, .inl df))] sz) := by
  refine Met.ofW (cc := b_Mach_push) (maxL := 2) (ret := none) (by decide) rfl ?_
  intro p e s m args below meth c s₁ B hml hv
  obtain ⟨rfl, hsz, hP, hK, hD0, hE⟩ := hv
  have hx := B.exec
  have hb := B.bytes
  have hr := B.returns
  have hts := atoms_spec (ws := w_Mach_push) B.pre
  have hT : ∀ w ∈ TB, w.before _ s = true := fun w h => hts w (List.mem_cons_of_mem _ h)
  have hown : s.vm.findClass "ColonMachine" = some m.cls := findClass_of_methodNamed B.named
  have hlocks := B.notSynchronized
  subst hsz
  have hD := hD0.self (sz := s.heap.size)
  generalize hAe : va_A [(hm, .inr (10, [.ref dd, .ref rr, .ref kc, .ref mm, .ref oo, .ref tt, .ref ww, .ref kk, .ref pp, .int lc])), (dd, .inr (1, [.ref da, .int dn])), (da, .inl (cI, 64, .inl df))] s.heap.size = A at hD hE ⊢
  have hA : ∀ q : Nat, s.heap.size ≤ q → A q := fun q h => by rw [← hAe]; exact Or.inr h
  have hS : va_S A s.heap s.heap [] := va_S.rf
  have hl := lv_entry [.ref hm, .int x1] (n := 2) (Nat.le_of_ble_eq_true rfl)
  rw [lg_entry_eq]
  generalize (lg_sl [.ref hm, .int x1] ++ List.replicate (2 - (lg_sl [.ref hm, .int x1]).length) Slot.unset).toArray = ls at hl ⊢
  have hl : lv_has ls 2 [(0, .ref hm), (1, .int x1)] := hl
  have hF := F_Mach_push0_e dn df x1
  refine lv_aload_n hx hb d_Mach_push_0 rfl (lv_at hl 0 rfl) ?_
  refine va_get (D := D) (v := .ref dd) (C := "ColonMachine") (T := T_Mach) (N := 10) hx hb hT i_Mach hown hK hP 0 rfl rfl 0 (by decide) (hT _ fl_Mach_14) (fun _ h9 => h9) rfl d_Mach_push_1 ?_
  refine lv_iconst (v := 1) hx hb d_Mach_push_4 (by decide) ?_
  refine kN_pi (wr := [(hm, .inr (10, [.ref dd, .ref rr, .ref kc, .ref mm, .ref oo, .ref tt, .ref ww, .ref kk, .ref pp, .int lc]))]) (zV (wc := [(dd, .inr (1, [.ref da, .int dn])), (da, .inl (cI, 64, .inl df))]) (As := [.int 1]) (rest := []) (st0 := [.int 1, .ref dd]) ⟨hx, hb, hml, hown, hT⟩ (c_Cells_hasRoomFor l D cI cJ cZ cW cT s.heap.size dd da 64 dn df 1 hid) (cwV 1 hT (tbV ml_Mach_130 im_Cells_hasRoomFor se_Cells_hasRoomFor in_Cells co_Cells_hasRoomFor) rfl rfl rfl v_Cells_hasRoomFor ⟨Nat.le_of_ble_eq_true rfl, Nat.le_of_ble_eq_true rfl⟩) hK hE hP hD hS hA [1, 2] rfl rfl 0 rfl rfl rfl hl.1 rfl (Nat.le_of_ble_eq_true rfl) d_Mach_push_5 ⟨Nat.le_of_ble_eq_true rfl, Nat.le_of_ble_eq_true rfl⟩) hP hD hS hA [1, 2] [0] rfl rfl rfl (by decide) [0, 1, 2] rfl rfl (fun q1 H locs e1 k1 hP hD hS => ?_)
  have hP : va_P D classes [(hm, .inr (10, [.ref dd, .ref rr, .ref kc, .ref mm, .ref oo, .ref tt, .ref ww, .ref kk, .ref pp, .int lc])), (dd, .inr (1, [.ref da, .int dn])), (da, .inl (cI, 64, .inl df))] H := hP
  have hD : va_D A [(hm, .inr (10, [.ref dd, .ref rr, .ref kc, .ref mm, .ref oo, .ref tt, .ref ww, .ref kk, .ref pp, .int lc])), (dd, .inr (1, [.ref da, .int dn])), (da, .inl (cI, 64, .inl df))] := hD
  have hF := hF.trans (bd_e e1)
  refine lv_if_ne (tgt := 21) hx hb d_Mach_push_8 (by decide) (fun c2 => ?_) (fun c2 => ?_)
  · refine lv_aload_n hx hb d_Mach_push_21 rfl (lv_at hl 0 rfl) ?_
    refine va_get (D := D) (v := .ref dd) (C := "ColonMachine") (T := T_Mach) (N := 10) hx hb hT i_Mach hown hK hP 0 rfl rfl 0 (by decide) (hT _ fl_Mach_14) (fun _ h9 => h9) rfl d_Mach_push_22 ?_
    refine lv_iload_n hx hb d_Mach_push_25 rfl (lv_at hl 1 rfl) ?_
    refine kN_sv (wr := [(hm, .inr (10, [.ref dd, .ref rr, .ref kc, .ref mm, .ref oo, .ref tt, .ref ww, .ref kk, .ref pp, .int lc]))]) (fun u : Int32 × (Nat → Int32) => [(hm, .inr (10, [.ref dd, .ref rr, .ref kc, .ref mm, .ref oo, .ref tt, .ref ww, .ref kk, .ref pp, .int lc])), (dd, .inr (1, [.ref da, .int u.1])), (da, .inl (cI, 64, .inl u.2))]) (zV (wc := [(dd, .inr (1, [.ref da, .int dn])), (da, .inl (cI, 64, .inl df))]) (As := [.int x1]) (rest := []) (st0 := [.int x1, .ref dd]) ⟨hx, hb, hml, hown, hT⟩ (c_Cells_put l D cI cJ cZ cW cT H.size dd da 64 dn df x1 hid) (cwV 1 hT (tbV ml_Mach_133 im_Cells_put se_Cells_put in_Cells co_Cells_put) rfl rfl rfl v_Cells_put ⟨Nat.le_of_ble_eq_true rfl, Nat.le_of_ble_eq_true rfl⟩) hK hE hP hD hS hA [1, 2] rfl rfl 0 rfl rfl rfl hl.1 rfl (Nat.le_of_ble_eq_true rfl) d_Mach_push_26 ⟨Nat.le_of_ble_eq_true rfl, Nat.le_of_ble_eq_true rfl⟩) hP hD hS hA [1, 2] [0] rfl rfl rfl (by decide) [0, 1, 2] rfl (fun u => rfl) (fun q3 H locs e3 k3 hP hD hS => ?_)
    have hP : va_P D classes [(hm, .inr (10, [.ref dd, .ref rr, .ref kc, .ref mm, .ref oo, .ref tt, .ref ww, .ref kk, .ref pp, .int lc])), (dd, .inr (1, [.ref da, .int q3.1])), (da, .inl (cI, 64, .inl q3.2))] H := hP
    have hD : va_D A [(hm, .inr (10, [.ref dd, .ref rr, .ref kc, .ref mm, .ref oo, .ref tt, .ref ww, .ref kk, .ref pp, .int lc])), (dd, .inr (1, [.ref da, .int q3.1])), (da, .inl (cI, 64, .inl q3.2))] := hD
    have hF := hF.trans (bd_e e3)
    exact W.vret hx hb hr (fun t ht hW => ⟨⟨_, rfl, ⟨hF.symm, k3⟩, ⟨by rw [ht]; exact hP, va_K.moved hW.alike hK, hD⟩⟩, hS.F ht⟩) hS.2.2 d_Mach_push_29
  · exact False.elim (by have := ti_lo dn; have := ti_hi dn; have := ti_lo q1; have := ti_hi q1; have t64 : Int32.toInt 64 = 64 := rfl; have t0 : Int32.toInt 0 = 0 := rfl; have t1 : Int32.toInt 1 = 1 := rfl; (try simp only [true_or, or_true, true_and, and_true, z_tn, CellsOk, CallsOk, TextOk, MemOk, OutOk, Int32.lt_iff_toInt_lt, Int32.le_iff_toInt_le, ← Int32.toInt_inj, Int32.toInt_add, Int32.toInt_sub, Int32.toInt_mul, Int32.toInt_neg, zbm, zbm', t64, t0, t1] at c2 hid hp k1) <;> omega)
/-- the picture of ColonMachine.peek -/
def F_Mach_peek0 (he : Int32) (fc : Nat → Int32) (x1 : Int32) : Int32 := bd (F_Memory_isValid0 he x1) (fun q1 => bd (F_Memory_read0 fc x1) (fun q3 => q3))
theorem F_Mach_peek0_e (he : Int32) (fc : Nat → Int32) (x1 : Int32) : F_Mach_peek0 he fc x1 = bd (F_Memory_isValid0 he x1) (fun q1 => bd (F_Memory_read0 fc x1) (fun q3 => q3)) := rfl
set_option maxHeartbeats 4000000 in
set_option maxRecDepth 100000 in
theorem c_Mach_peek0 (l : Launch) (D : va_G) (cI cJ cZ cW cT : ClassId) (sz : Nat) (hm : Nat) (dd : Nat) (rr : Nat) (kc : Nat) (mm : Nat) (oo : Nat) (tt : Nat) (ww : Nat) (kk : Nat) (pp : Nat) (ma : Nat) (mb : Nat) (lc : Int32) (he : Int32) (fc : Nat → Int32) (fb : Nat → Int32) (x1 : Int32) (him : MemOk he) (hp : he.toInt = 1) (hq : ∀ k : Nat, fb k = 0) (hn : x1.toInt = 0) : Met l y_Mach_peek w_Mach_peek ({ frames := 1, cells := 0, slots := 0, locals := 21 }) (va_Pc [.ref hm, .int x1] (zP D classes (TY cI cJ cZ cW cT) [(hm, .inr (10, [.ref dd, .ref rr, .ref kc, .ref mm, .ref oo, .ref tt, .ref ww, .ref kk, .ref pp, .int lc])), (mm, .inr (4, [.ref ma, .ref mb, .int he])), (ma, .inl (cI, 1000, .inl fc)), (mb, .inl (cI, 600, .inl fb))] sz)) (va_Qi (fun (r : Int32) (_ : Unit) => r = F_Mach_peek0 he fc x1 ∧ ((r.toInt = (fc 0).toInt))) (fun _ => zB D classes (TY cI cJ cZ cW cT) (va_A [(hm, .inr (10, [.ref dd, .ref rr, .ref kc, .ref mm, .ref oo, .ref tt, .ref ww, .ref kk, .ref pp, .int lc])), (mm, .inr (4, [.ref ma, .ref mb, .int he])), (ma, .inl (cI, 1000, .inl fc)), (mb, .inl (cI, 600, .inl fb))] sz) [(hm, .inr (10, [.ref dd, .ref rr, .ref kc, .ref mm, .ref oo, .ref tt, .ref ww, .ref kk, .ref pp, .int lc])), (mm, .inr (4, [.ref ma, .ref mb, .int he])), (ma, .inl (cI, 1000, .inl fc)), (mb, .inl (cI, 600, .inl fb))]) (va_A [(hm, .inr (10, [.ref dd, .ref rr, .ref kc, .ref mm, .ref oo, .ref tt, .ref ww, .ref kk, .ref pp, .int lc])), (mm, .inr (4, [.ref ma, .ref mb, .int he])), (ma, .inl (cI, 1000, .inl fc)), (mb, .inl (cI, 600, .inl fb))] sz)) 0 0 (va_A [(hm, .inr (10, [.ref dd, .ref rr, .ref kc, .ref mm, .ref oo, .ref tt, .ref ww, .ref kk, .ref pp, .int lc])), (mm, .inr (4, [.ref ma, .ref mb, .int he])), (ma, .inl (cI, 1000, .inl fc)), (mb, .inl (cI, 600, .inl fb))] sz) := by
  refine Met.ofW (cc := b_Mach_peek) (maxL := 2) (ret := (some .int)) (by decide) rfl ?_
  intro p e s m args below meth c s₁ B hml hv
  obtain ⟨rfl, hsz, hP, hK, hD0, hE⟩ := hv
  have hx := B.exec
  have hb := B.bytes
  have hr := B.returns
  have hts := atoms_spec (ws := w_Mach_peek) B.pre
  have hT : ∀ w ∈ TB, w.before _ s = true := fun w h => hts w (List.mem_cons_of_mem _ h)
  have hown : s.vm.findClass "ColonMachine" = some m.cls := findClass_of_methodNamed B.named
  have hlocks := B.notSynchronized
  subst hsz
  have hD := hD0.self (sz := s.heap.size)
  generalize hAe : va_A [(hm, .inr (10, [.ref dd, .ref rr, .ref kc, .ref mm, .ref oo, .ref tt, .ref ww, .ref kk, .ref pp, .int lc])), (mm, .inr (4, [.ref ma, .ref mb, .int he])), (ma, .inl (cI, 1000, .inl fc)), (mb, .inl (cI, 600, .inl fb))] s.heap.size = A at hD hE ⊢
  have hA : ∀ q : Nat, s.heap.size ≤ q → A q := fun q h => by rw [← hAe]; exact Or.inr h
  have hS : va_S A s.heap s.heap [] := va_S.rf
  have hl := lv_entry [.ref hm, .int x1] (n := 2) (Nat.le_of_ble_eq_true rfl)
  rw [lg_entry_eq]
  generalize (lg_sl [.ref hm, .int x1] ++ List.replicate (2 - (lg_sl [.ref hm, .int x1]).length) Slot.unset).toArray = ls at hl ⊢
  have hl : lv_has ls 2 [(0, .ref hm), (1, .int x1)] := hl
  have hF := F_Mach_peek0_e he fc x1
  refine lv_aload_n hx hb d_Mach_peek_0 rfl (lv_at hl 0 rfl) ?_
  refine va_get (D := D) (v := .ref mm) (C := "ColonMachine") (T := T_Mach) (N := 10) hx hb hT i_Mach hown hK hP 0 rfl rfl 3 (by decide) (hT _ fl_Mach_31) (fun _ h9 => h9) rfl d_Mach_peek_1 ?_
  refine lv_iload_n hx hb d_Mach_peek_4 rfl (lv_at hl 1 rfl) ?_
  refine kN_pi (wr := [(hm, .inr (10, [.ref dd, .ref rr, .ref kc, .ref mm, .ref oo, .ref tt, .ref ww, .ref kk, .ref pp, .int lc])), (ma, .inl (cI, 1000, .inl fc))]) (zV (wc := [(mm, .inr (4, [.ref ma, .ref mb, .int he])), (mb, .inl (cI, 600, .inl fb))]) (As := [.int x1]) (rest := []) (st0 := [.int x1, .ref mm]) ⟨hx, hb, hml, hown, hT⟩ (c_Memory_isValid0 l D cI cJ cZ cW cT s.heap.size mm ma mb he fb x1 him hp hq) (cwV 1 hT (tbV ml_Mach_136 im_Memory_isValid se_Memory_isValid in_Memory co_Memory_isValid) rfl rfl rfl v_Memory_isValid ⟨Nat.le_of_ble_eq_true rfl, Nat.le_of_ble_eq_true rfl⟩) hK hE hP hD hS hA [1, 3] rfl rfl 0 rfl rfl rfl hl.1 rfl (Nat.le_of_ble_eq_true rfl) d_Mach_peek_5 ⟨Nat.le_of_ble_eq_true rfl, Nat.le_of_ble_eq_true rfl⟩) hP hD hS hA [1, 3] [0, 2] rfl rfl rfl (by decide) [0, 2, 1, 3] rfl rfl (fun q1 H locs e1 k1 hP hD hS => ?_)
  have hP : va_P D classes [(hm, .inr (10, [.ref dd, .ref rr, .ref kc, .ref mm, .ref oo, .ref tt, .ref ww, .ref kk, .ref pp, .int lc])), (mm, .inr (4, [.ref ma, .ref mb, .int he])), (ma, .inl (cI, 1000, .inl fc)), (mb, .inl (cI, 600, .inl fb))] H := hP
  have hD : va_D A [(hm, .inr (10, [.ref dd, .ref rr, .ref kc, .ref mm, .ref oo, .ref tt, .ref ww, .ref kk, .ref pp, .int lc])), (mm, .inr (4, [.ref ma, .ref mb, .int he])), (ma, .inl (cI, 1000, .inl fc)), (mb, .inl (cI, 600, .inl fb))] := hD
  have hF := hF.trans (bd_e e1)
  refine lv_if_ne (tgt := 21) hx hb d_Mach_peek_8 (by decide) (fun c2 => ?_) (fun c2 => ?_)
  · refine lv_aload_n hx hb d_Mach_peek_21 rfl (lv_at hl 0 rfl) ?_
    refine va_get (D := D) (v := .ref mm) (C := "ColonMachine") (T := T_Mach) (N := 10) hx hb hT i_Mach hown hK hP 0 rfl rfl 3 (by decide) (hT _ fl_Mach_31) (fun _ h9 => h9) rfl d_Mach_peek_22 ?_
    refine lv_iload_n hx hb d_Mach_peek_25 rfl (lv_at hl 1 rfl) ?_
    refine kN_pi (wr := [(hm, .inr (10, [.ref dd, .ref rr, .ref kc, .ref mm, .ref oo, .ref tt, .ref ww, .ref kk, .ref pp, .int lc])), (mb, .inl (cI, 600, .inl fb))]) (zV (wc := [(mm, .inr (4, [.ref ma, .ref mb, .int he])), (ma, .inl (cI, 1000, .inl fc))]) (As := [.int x1]) (rest := []) (st0 := [.int x1, .ref mm]) ⟨hx, hb, hml, hown, hT⟩ (c_Memory_read0 l D cI cJ cZ cW cT H.size mm ma mb he fc x1 him hn) (cwV 1 hT (tbV ml_Mach_141 im_Memory_read se_Memory_read in_Memory co_Memory_read) rfl rfl rfl v_Memory_read ⟨Nat.le_of_ble_eq_true rfl, Nat.le_of_ble_eq_true rfl⟩) hK hE hP hD hS hA [1, 2] rfl rfl 0 rfl rfl rfl hl.1 rfl (Nat.le_of_ble_eq_true rfl) d_Mach_peek_26 ⟨Nat.le_of_ble_eq_true rfl, Nat.le_of_ble_eq_true rfl⟩) hP hD hS hA [1, 2] [0, 3] rfl rfl rfl (by decide) [0, 2, 3, 1] rfl rfl (fun q3 H locs e3 k3 hP hD hS => ?_)
    have hP : va_P D classes [(hm, .inr (10, [.ref dd, .ref rr, .ref kc, .ref mm, .ref oo, .ref tt, .ref ww, .ref kk, .ref pp, .int lc])), (mm, .inr (4, [.ref ma, .ref mb, .int he])), (ma, .inl (cI, 1000, .inl fc)), (mb, .inl (cI, 600, .inl fb))] H := hP
    have hD : va_D A [(hm, .inr (10, [.ref dd, .ref rr, .ref kc, .ref mm, .ref oo, .ref tt, .ref ww, .ref kk, .ref pp, .int lc])), (mm, .inr (4, [.ref ma, .ref mb, .int he])), (ma, .inl (cI, 1000, .inl fc)), (mb, .inl (cI, 600, .inl fb))] := hD
    have hF := hF.trans (bd_e e3)
    exact W.iret (v := q3) hx hb hr (fun t ht hW => ⟨⟨_, (), rfl, ⟨hF.symm, k3⟩, ⟨by rw [ht]; exact hP, va_K.moved hW.alike hK, hD⟩⟩, hS.F ht⟩) hS.2.2 d_Mach_peek_29
  · exact False.elim (by have := ti_lo he; have := ti_hi he; have := ti_lo x1; have := ti_hi x1; have := ti_lo q1; have := ti_hi q1; have t1 : Int32.toInt 1 = 1 := rfl; have t0 : Int32.toInt 0 = 0 := rfl; (try simp only [true_or, or_true, true_and, and_true, z_tn, CellsOk, CallsOk, TextOk, MemOk, OutOk, Int32.lt_iff_toInt_lt, Int32.le_iff_toInt_le, ← Int32.toInt_inj, Int32.toInt_add, Int32.toInt_sub, Int32.toInt_mul, Int32.toInt_neg, zbm, zbm', t1, t0] at c2 him hp hq hn k1) <;> omega)
/-- the picture of ColonMachine.feed -/
def F_Mach_feedT (x2 : Int32) : Unit := if x2 < 1 then () else ()
theorem F_Mach_feedT_e (x2 : Int32) : F_Mach_feedT x2 = if x2 < 1 then () else () := rfl
set_option maxHeartbeats 4000000 in
set_option maxRecDepth 100000 in
theorem c_Mach_feedT (l : Launch) (htl : ∀ e : Env, l.admits e → e.platform.stackTraces = false) (D : va_G) (cI cJ cZ cW cT : ClassId) (sz : Nat) (hm : Nat) (dd : Nat) (rr : Nat) (kc : Nat) (mm : Nat) (oo : Nat) (tt : Nat) (ww : Nat) (kk : Nat) (pp : Nat) (lc : Int32) (x1 : Int64) (x2 : Int32) (hn : x2.toInt < 1 ∨ 8 < x2.toInt) : MetT l y_Mach_feed w_Mach_feed ({ frames := 6, cells := 1, slots := 6, locals := 90 }) (va_Pc [.ref hm, .long x1, .int x2] (zP D classes (TY cI cJ cZ cW cT) [(hm, .inr (10, [.ref dd, .ref rr, .ref kc, .ref mm, .ref oo, .ref tt, .ref ww, .ref kk, .ref pp, .int lc]))] sz)) "java/lang/IllegalArgumentException" 1 6 (va_A [(hm, .inr (10, [.ref dd, .ref rr, .ref kc, .ref mm, .ref oo, .ref tt, .ref ww, .ref kk, .ref pp, .int lc]))] sz) := by
  refine MetT.ofW (cc := b_Mach_feed) (maxL := 4) (ret := (some .int)) (by decide) rfl ?_
  intro p e s m args below meth c s₁ B hml hne hv
  obtain ⟨rfl, hsz, hP, hK, hD0, hE⟩ := hv
  have hx := B.exec
  have hb := B.bytes
  have hr := B.returns
  have hts := atoms_spec (ws := w_Mach_feed) B.pre
  have hT : ∀ w ∈ TB, w.before _ s = true := fun w h => hts w (List.mem_cons_of_mem _ h)
  have hown : s.vm.findClass "ColonMachine" = some m.cls := findClass_of_methodNamed B.named
  have hlocks := B.notSynchronized
  subst hsz
  have hD := hD0.self (sz := s.heap.size)
  have hno := z_nost hP
  generalize hAe : va_A [(hm, .inr (10, [.ref dd, .ref rr, .ref kc, .ref mm, .ref oo, .ref tt, .ref ww, .ref kk, .ref pp, .int lc]))] s.heap.size = A at hD hE hno ⊢
  have hA : ∀ q : Nat, s.heap.size ≤ q → A q := fun q h => by rw [← hAe]; exact Or.inr h
  have hS : va_S A s.heap s.heap [] := va_S.rf
  have hl := lv_entry [.ref hm, .long x1, .int x2] (n := 4) (Nat.le_of_ble_eq_true rfl)
  rw [lg_entry_eq]
  generalize (lg_sl [.ref hm, .long x1, .int x2] ++ List.replicate (4 - (lg_sl [.ref hm, .long x1, .int x2]).length) Slot.unset).toArray = ls at hl ⊢
  have hl : lv_has ls 4 [(0, .ref hm), (1, .long x1), (3, .int x2)] := hl
  have hF := F_Mach_feedT_e x2
  refine lv_iload_n hx hb d_Mach_feed_0 rfl (lv_at hl 2 rfl) ?_
  refine lv_iconst (v := 1) hx hb d_Mach_feed_1 (by decide) ?_
  refine lv_icmp_lt (tgt := 11) hx hb d_Mach_feed_2 (by decide) (fun c1 => ?_) (fun c1 => ?_)
  · have hF := hF.trans (if_pos c1)
    obtain ⟨qs, hstr⟩ := hE.1.2.2.2.2.2.2.2.2.2.1
    exact z_throw (names := xNames) (E := "java/lang/IllegalArgumentException") hx hb (htl e B.admits) hown (hT _ kl_Mach_78) (hT _ in_IllegalArgumentException) hstr x_fitA x_fitN (x_all _ x_A hT hE (va_Nw.use rfl hE.1.2.2.2.2.2.2.1)) hS hno (hl.1.trans hml.symm) hne hlocks d_Mach_feed_11 d_Mach_feed_14 d_Mach_feed_15 d_Mach_feed_17 d_Mach_feed_20 (Nat.le_of_ble_eq_true rfl) (Nat.le_of_ble_eq_true rfl) (Nat.le_of_ble_eq_true rfl) (Nat.le_of_ble_eq_true rfl)
  · have hF := hF.trans (if_neg c1)
    refine lv_iload_n hx hb d_Mach_feed_5 rfl (lv_at hl 2 rfl) ?_
    refine lv_bipush (v := 8) hx hb d_Mach_feed_6 (by decide) ?_
    refine lv_icmp_le (tgt := 21) hx hb d_Mach_feed_8 (by decide) (fun c2 => ?_) (fun c2 => ?_)
    · exact False.elim (by have := ti_lo x2; have := ti_hi x2; have t1 : Int32.toInt 1 = 1 := rfl; have t8 : Int32.toInt 8 = 8 := rfl; (try simp only [true_or, or_true, true_and, and_true, z_tn, CellsOk, CallsOk, TextOk, MemOk, OutOk, Int32.lt_iff_toInt_lt, Int32.le_iff_toInt_le, ← Int32.toInt_inj, Int32.toInt_add, Int32.toInt_sub, Int32.toInt_mul, Int32.toInt_neg, zbm, zbm', t1, t8] at c1 c2 hn) <;> omega)
    · obtain ⟨qs, hstr⟩ := hE.1.2.2.2.2.2.2.2.2.2.1
      exact z_throw (names := xNames) (E := "java/lang/IllegalArgumentException") hx hb (htl e B.admits) hown (hT _ kl_Mach_78) (hT _ in_IllegalArgumentException) hstr x_fitA x_fitN (x_all _ x_A hT hE (va_Nw.use rfl hE.1.2.2.2.2.2.2.1)) hS hno (hl.1.trans hml.symm) hne hlocks d_Mach_feed_11 d_Mach_feed_14 d_Mach_feed_15 d_Mach_feed_17 d_Mach_feed_20 (Nat.le_of_ble_eq_true rfl) (Nat.le_of_ble_eq_true rfl) (Nat.le_of_ble_eq_true rfl) (Nat.le_of_ble_eq_true rfl)
/-- the picture of ColonMachine.run -/
def F_Mach_runT (x1 : Int32) : Unit := if x1 < 1 then () else ()
theorem F_Mach_runT_e (x1 : Int32) : F_Mach_runT x1 = if x1 < 1 then () else () := rfl
set_option maxHeartbeats 4000000 in
set_option maxRecDepth 100000 in
theorem c_Mach_runT (l : Launch) (htl : ∀ e : Env, l.admits e → e.platform.stackTraces = false) (D : va_G) (cI cJ cZ cW cT : ClassId) (sz : Nat) (hm : Nat) (dd : Nat) (rr : Nat) (kc : Nat) (mm : Nat) (oo : Nat) (tt : Nat) (ww : Nat) (kk : Nat) (pp : Nat) (lc : Int32) (x1 : Int32) (hn : x1.toInt < 1 ∨ 5000 < x1.toInt) : MetT l y_Mach_run w_Mach_run ({ frames := 6, cells := 1, slots := 6, locals := 90 }) (va_Pc [.ref hm, .int x1] (zP D classes (TY cI cJ cZ cW cT) [(hm, .inr (10, [.ref dd, .ref rr, .ref kc, .ref mm, .ref oo, .ref tt, .ref ww, .ref kk, .ref pp, .int lc]))] sz)) "java/lang/IllegalArgumentException" 1 6 (va_A [(hm, .inr (10, [.ref dd, .ref rr, .ref kc, .ref mm, .ref oo, .ref tt, .ref ww, .ref kk, .ref pp, .int lc]))] sz) := by
  refine MetT.ofW (cc := b_Mach_run) (maxL := 4) (ret := (some .int)) (by decide) rfl ?_
  intro p e s m args below meth c s₁ B hml hne hv
  obtain ⟨rfl, hsz, hP, hK, hD0, hE⟩ := hv
  have hx := B.exec
  have hb := B.bytes
  have hr := B.returns
  have hts := atoms_spec (ws := w_Mach_run) B.pre
  have hT : ∀ w ∈ TB, w.before _ s = true := fun w h => hts w (List.mem_cons_of_mem _ h)
  have hown : s.vm.findClass "ColonMachine" = some m.cls := findClass_of_methodNamed B.named
  have hlocks := B.notSynchronized
  subst hsz
  have hD := hD0.self (sz := s.heap.size)
  have hno := z_nost hP
  generalize hAe : va_A [(hm, .inr (10, [.ref dd, .ref rr, .ref kc, .ref mm, .ref oo, .ref tt, .ref ww, .ref kk, .ref pp, .int lc]))] s.heap.size = A at hD hE hno ⊢
  have hA : ∀ q : Nat, s.heap.size ≤ q → A q := fun q h => by rw [← hAe]; exact Or.inr h
  have hS : va_S A s.heap s.heap [] := va_S.rf
  have hl := lv_entry [.ref hm, .int x1] (n := 4) (Nat.le_of_ble_eq_true rfl)
  rw [lg_entry_eq]
  generalize (lg_sl [.ref hm, .int x1] ++ List.replicate (4 - (lg_sl [.ref hm, .int x1]).length) Slot.unset).toArray = ls at hl ⊢
  have hl : lv_has ls 4 [(0, .ref hm), (1, .int x1)] := hl
  have hF := F_Mach_runT_e x1
  refine lv_iload_n hx hb d_Mach_run_0 rfl (lv_at hl 1 rfl) ?_
  refine lv_iconst (v := 1) hx hb d_Mach_run_1 (by decide) ?_
  refine lv_icmp_lt (tgt := 12) hx hb d_Mach_run_2 (by decide) (fun c1 => ?_) (fun c1 => ?_)
  · have hF := hF.trans (if_pos c1)
    obtain ⟨qs, hstr⟩ := hE.1.2.2.2.2.2.2.2.2.2.2.1
    exact z_throw (names := xNames) (E := "java/lang/IllegalArgumentException") hx hb (htl e B.admits) hown (hT _ kl_Mach_78) (hT _ in_IllegalArgumentException) hstr x_fitA x_fitN (x_all _ x_A hT hE (va_Nw.use rfl hE.1.2.2.2.2.2.2.1)) hS hno (hl.1.trans hml.symm) hne hlocks d_Mach_run_12 d_Mach_run_15 d_Mach_run_16 d_Mach_run_18 d_Mach_run_21 (Nat.le_of_ble_eq_true rfl) (Nat.le_of_ble_eq_true rfl) (Nat.le_of_ble_eq_true rfl) (Nat.le_of_ble_eq_true rfl)
  · have hF := hF.trans (if_neg c1)
    refine lv_iload_n hx hb d_Mach_run_5 rfl (lv_at hl 1 rfl) ?_
    refine lv_sipush (v := 5000) hx hb d_Mach_run_6 (by decide) ?_
    refine lv_icmp_le (tgt := 22) hx hb d_Mach_run_9 (by decide) (fun c2 => ?_) (fun c2 => ?_)
    · exact False.elim (by have := ti_lo x1; have := ti_hi x1; have t1 : Int32.toInt 1 = 1 := rfl; have t5000 : Int32.toInt 5000 = 5000 := rfl; (try simp only [true_or, or_true, true_and, and_true, z_tn, CellsOk, CallsOk, TextOk, MemOk, OutOk, Int32.lt_iff_toInt_lt, Int32.le_iff_toInt_le, ← Int32.toInt_inj, Int32.toInt_add, Int32.toInt_sub, Int32.toInt_mul, Int32.toInt_neg, zbm, zbm', t1, t5000] at c1 c2 hn) <;> omega)
    · obtain ⟨qs, hstr⟩ := hE.1.2.2.2.2.2.2.2.2.2.2.1
      exact z_throw (names := xNames) (E := "java/lang/IllegalArgumentException") hx hb (htl e B.admits) hown (hT _ kl_Mach_78) (hT _ in_IllegalArgumentException) hstr x_fitA x_fitN (x_all _ x_A hT hE (va_Nw.use rfl hE.1.2.2.2.2.2.2.1)) hS hno (hl.1.trans hml.symm) hne hlocks d_Mach_run_12 d_Mach_run_15 d_Mach_run_16 d_Mach_run_18 d_Mach_run_21 (Nat.le_of_ble_eq_true rfl) (Nat.le_of_ble_eq_true rfl) (Nat.le_of_ble_eq_true rfl) (Nat.le_of_ble_eq_true rfl)
/-- the picture of ColonMachine.pick -/
def F_Mach_pickT (dn : Int32) (x1 : Int32) : Unit := if x1 < 0 then () else (bd (F_Cells_size dn) (fun q2 => ()))
theorem F_Mach_pickT_e (dn : Int32) (x1 : Int32) : F_Mach_pickT dn x1 = if x1 < 0 then () else (bd (F_Cells_size dn) (fun q2 => ())) := rfl
set_option maxHeartbeats 4000000 in
set_option maxRecDepth 100000 in
theorem c_Mach_pickT (l : Launch) (htl : ∀ e : Env, l.admits e → e.platform.stackTraces = false) (D : va_G) (cI cJ cZ cW cT : ClassId) (sz : Nat) (hm : Nat) (dd : Nat) (rr : Nat) (kc : Nat) (mm : Nat) (oo : Nat) (tt : Nat) (ww : Nat) (kk : Nat) (pp : Nat) (da : Nat) (lc : Int32) (dn : Int32) (x1 : Int32) (hid : CellsOk 64 dn) (hp : dn.toInt = 0) : MetT l y_Mach_pick w_Mach_pick ({ frames := 6, cells := 1, slots := 6, locals := 90 }) (va_Pc [.ref hm, .int x1] (zP D classes (TY cI cJ cZ cW cT) [(hm, .inr (10, [.ref dd, .ref rr, .ref kc, .ref mm, .ref oo, .ref tt, .ref ww, .ref kk, .ref pp, .int lc])), (dd, .inr (1, [.ref da, .int dn]))] sz)) "java/lang/IndexOutOfBoundsException" 1 6 (va_A [(hm, .inr (10, [.ref dd, .ref rr, .ref kc, .ref mm, .ref oo, .ref tt, .ref ww, .ref kk, .ref pp, .int lc])), (dd, .inr (1, [.ref da, .int dn]))] sz) := by
  refine MetT.ofW (cc := b_Mach_pick) (maxL := 2) (ret := (some .int)) (by decide) rfl ?_
  intro p e s m args below meth c s₁ B hml hne hv
  obtain ⟨rfl, hsz, hP, hK, hD0, hE⟩ := hv
  have hx := B.exec
  have hb := B.bytes
  have hr := B.returns
  have hts := atoms_spec (ws := w_Mach_pick) B.pre
  have hT : ∀ w ∈ TB, w.before _ s = true := fun w h => hts w (List.mem_cons_of_mem _ h)
  have hown : s.vm.findClass "ColonMachine" = some m.cls := findClass_of_methodNamed B.named
  have hlocks := B.notSynchronized
  subst hsz
  have hD := hD0.self (sz := s.heap.size)
  have hno := z_nost hP
  generalize hAe : va_A [(hm, .inr (10, [.ref dd, .ref rr, .ref kc, .ref mm, .ref oo, .ref tt, .ref ww, .ref kk, .ref pp, .int lc])), (dd, .inr (1, [.ref da, .int dn]))] s.heap.size = A at hD hE hno ⊢
  have hA : ∀ q : Nat, s.heap.size ≤ q → A q := fun q h => by rw [← hAe]; exact Or.inr h
  have hS : va_S A s.heap s.heap [] := va_S.rf
  have hl := lv_entry [.ref hm, .int x1] (n := 2) (Nat.le_of_ble_eq_true rfl)
  rw [lg_entry_eq]
  generalize (lg_sl [.ref hm, .int x1] ++ List.replicate (2 - (lg_sl [.ref hm, .int x1]).length) Slot.unset).toArray = ls at hl ⊢
  have hl : lv_has ls 2 [(0, .ref hm), (1, .int x1)] := hl
  have hF := F_Mach_pickT_e dn x1
  refine lv_iload_n hx hb d_Mach_pick_0 rfl (lv_at hl 1 rfl) ?_
  refine lv_if_lt (tgt := 15) hx hb d_Mach_pick_1 (by decide) (fun c1 => ?_) (fun c1 => ?_)
  · have hF := hF.trans (if_pos c1)
    obtain ⟨qs, hstr⟩ := hE.1.2.2.2.2.2.2.2.2.2.2.2.1
    exact z_throw (names := xNames) (E := "java/lang/IndexOutOfBoundsException") hx hb (htl e B.admits) hown (hT _ kl_Mach_121) (hT _ in_IndexOutOfBoundsException) hstr x_fitB x_fitN (x_all _ x_B hT hE (va_Nw.use rfl hE.1.2.2.2.2.2.2.2.1)) hS hno (hl.1.trans hml.symm) hne hlocks d_Mach_pick_15 d_Mach_pick_18 d_Mach_pick_19 d_Mach_pick_21 d_Mach_pick_24 (Nat.le_of_ble_eq_true rfl) (Nat.le_of_ble_eq_true rfl) (Nat.le_of_ble_eq_true rfl) (Nat.le_of_ble_eq_true rfl)
  · have hF := hF.trans (if_neg c1)
    refine lv_iload_n hx hb d_Mach_pick_4 rfl (lv_at hl 1 rfl) ?_
    refine lv_aload_n hx hb d_Mach_pick_5 rfl (lv_at hl 0 rfl) ?_
    refine va_get (D := D) (v := .ref dd) (C := "ColonMachine") (T := T_Mach) (N := 10) hx hb hT i_Mach hown hK hP 0 rfl rfl 0 (by decide) (hT _ fl_Mach_14) (fun _ h9 => h9) rfl d_Mach_pick_6 ?_
    refine kN_pi (wr := [(hm, .inr (10, [.ref dd, .ref rr, .ref kc, .ref mm, .ref oo, .ref tt, .ref ww, .ref kk, .ref pp, .int lc]))]) (zV (wc := [(dd, .inr (1, [.ref da, .int dn]))]) (As := []) (rest := [.int x1]) (st0 := [.ref dd, .int x1]) ⟨hx, hb, hml, hown, hT⟩ (c_Cells_size l D cI cJ cZ cW cT s.heap.size dd da 64 dn hid) (cwV 0 hT (tbV ml_Mach_120 im_Cells_size se_Cells_size in_Cells co_Cells_size) rfl rfl rfl v_Cells_size ⟨Nat.le_of_ble_eq_true rfl, Nat.le_of_ble_eq_true rfl⟩) hK hE hP hD hS hA [1] rfl rfl 0 rfl rfl rfl hl.1 rfl (Nat.le_of_ble_eq_true rfl) d_Mach_pick_9 ⟨Nat.le_of_ble_eq_true rfl, Nat.le_of_ble_eq_true rfl⟩) hP hD hS hA [1] [0] rfl rfl rfl (by decide) [0, 1] rfl rfl (fun q2 H locs e2 k2 hP hD hS => ?_)
    have hP : va_P D classes [(hm, .inr (10, [.ref dd, .ref rr, .ref kc, .ref mm, .ref oo, .ref tt, .ref ww, .ref kk, .ref pp, .int lc])), (dd, .inr (1, [.ref da, .int dn]))] H := hP
    have hD : va_D A [(hm, .inr (10, [.ref dd, .ref rr, .ref kc, .ref mm, .ref oo, .ref tt, .ref ww, .ref kk, .ref pp, .int lc])), (dd, .inr (1, [.ref da, .int dn]))] := hD
    have hF := hF.trans (bd_e e2)
    refine lv_icmp_lt (tgt := 25) hx hb d_Mach_pick_12 (by decide) (fun c3 => ?_) (fun c3 => ?_)
    · exact False.elim (by have := ti_lo dn; have := ti_hi dn; have := ti_lo x1; have := ti_hi x1; have := ti_lo q2; have := ti_hi q2; have t64 : Int32.toInt 64 = 64 := rfl; have t0 : Int32.toInt 0 = 0 := rfl; (try simp only [true_or, or_true, true_and, and_true, z_tn, CellsOk, CallsOk, TextOk, MemOk, OutOk, Int32.lt_iff_toInt_lt, Int32.le_iff_toInt_le, ← Int32.toInt_inj, Int32.toInt_add, Int32.toInt_sub, Int32.toInt_mul, Int32.toInt_neg, zbm, zbm', t64, t0] at c1 c3 hid hp k2) <;> omega)
    · obtain ⟨qs, hstr⟩ := hE.1.2.2.2.2.2.2.2.2.2.2.2.1
      exact z_throw (names := xNames) (E := "java/lang/IndexOutOfBoundsException") hx hb (htl e B.admits) hown (hT _ kl_Mach_121) (hT _ in_IndexOutOfBoundsException) hstr x_fitB x_fitN (x_all _ x_B hT hE (va_Nw.use rfl hE.1.2.2.2.2.2.2.2.1)) hS hno (hl.1.trans hml.symm) hne hlocks d_Mach_pick_15 d_Mach_pick_18 d_Mach_pick_19 d_Mach_pick_21 d_Mach_pick_24 (Nat.le_of_ble_eq_true rfl) (Nat.le_of_ble_eq_true rfl) (Nat.le_of_ble_eq_true rfl) (Nat.le_of_ble_eq_true rfl)
/-- the picture of ColonMachine.peek -/
def F_Mach_peekT (he : Int32) (x1 : Int32) : Unit := bd (F_Memory_isValid0 he x1) (fun q1 => ())
theorem F_Mach_peekT_e (he : Int32) (x1 : Int32) : F_Mach_peekT he x1 = bd (F_Memory_isValid0 he x1) (fun q1 => ()) := rfl
set_option maxHeartbeats 4000000 in
set_option maxRecDepth 100000 in
theorem c_Mach_peekT (l : Launch) (htl : ∀ e : Env, l.admits e → e.platform.stackTraces = false) (D : va_G) (cI cJ cZ cW cT : ClassId) (sz : Nat) (hm : Nat) (dd : Nat) (rr : Nat) (kc : Nat) (mm : Nat) (oo : Nat) (tt : Nat) (ww : Nat) (kk : Nat) (pp : Nat) (ma : Nat) (mb : Nat) (lc : Int32) (he : Int32) (fb : Nat → Int32) (x1 : Int32) (him : MemOk he) (hp : he.toInt = 1) (hq : ∀ k : Nat, fb k = 0) (hn : ¬ x1.toInt = 0) : MetT l y_Mach_peek w_Mach_peek ({ frames := 6, cells := 1, slots := 6, locals := 90 }) (va_Pc [.ref hm, .int x1] (zP D classes (TY cI cJ cZ cW cT) [(hm, .inr (10, [.ref dd, .ref rr, .ref kc, .ref mm, .ref oo, .ref tt, .ref ww, .ref kk, .ref pp, .int lc])), (mm, .inr (4, [.ref ma, .ref mb, .int he])), (mb, .inl (cI, 600, .inl fb))] sz)) "java/lang/IndexOutOfBoundsException" 1 6 (va_A [(hm, .inr (10, [.ref dd, .ref rr, .ref kc, .ref mm, .ref oo, .ref tt, .ref ww, .ref kk, .ref pp, .int lc])), (mm, .inr (4, [.ref ma, .ref mb, .int he])), (mb, .inl (cI, 600, .inl fb))] sz) := by
  refine MetT.ofW (cc := b_Mach_peek) (maxL := 2) (ret := (some .int)) (by decide) rfl ?_
  intro p e s m args below meth c s₁ B hml hne hv
  obtain ⟨rfl, hsz, hP, hK, hD0, hE⟩ := hv
  have hx := B.exec
  have hb := B.bytes
  have hr := B.returns
  have hts := atoms_spec (ws := w_Mach_peek) B.pre
  have hT : ∀ w ∈ TB, w.before _ s = true := fun w h => hts w (List.mem_cons_of_mem _ h)
  have hown : s.vm.findClass "ColonMachine" = some m.cls := findClass_of_methodNamed B.named
  have hlocks := B.notSynchronized
  subst hsz
  have hD := hD0.self (sz := s.heap.size)
  have hno := z_nost hP
  generalize hAe : va_A [(hm, .inr (10, [.ref dd, .ref rr, .ref kc, .ref mm, .ref oo, .ref tt, .ref ww, .ref kk, .ref pp, .int lc])), (mm, .inr (4, [.ref ma, .ref mb, .int he])), (mb, .inl (cI, 600, .inl fb))] s.heap.size = A at hD hE hno ⊢
  have hA : ∀ q : Nat, s.heap.size ≤ q → A q := fun q h => by rw [← hAe]; exact Or.inr h
  have hS : va_S A s.heap s.heap [] := va_S.rf
  have hl := lv_entry [.ref hm, .int x1] (n := 2) (Nat.le_of_ble_eq_true rfl)
  rw [lg_entry_eq]
  generalize (lg_sl [.ref hm, .int x1] ++ List.replicate (2 - (lg_sl [.ref hm, .int x1]).length) Slot.unset).toArray = ls at hl ⊢
  have hl : lv_has ls 2 [(0, .ref hm), (1, .int x1)] := hl
  have hF := F_Mach_peekT_e he x1
  refine lv_aload_n hx hb d_Mach_peek_0 rfl (lv_at hl 0 rfl) ?_
  refine va_get (D := D) (v := .ref mm) (C := "ColonMachine") (T := T_Mach) (N := 10) hx hb hT i_Mach hown hK hP 0 rfl rfl 3 (by decide) (hT _ fl_Mach_31) (fun _ h9 => h9) rfl d_Mach_peek_1 ?_
  refine lv_iload_n hx hb d_Mach_peek_4 rfl (lv_at hl 1 rfl) ?_
  refine kN_pi (wr := [(hm, .inr (10, [.ref dd, .ref rr, .ref kc, .ref mm, .ref oo, .ref tt, .ref ww, .ref kk, .ref pp, .int lc]))]) (zV (wc := [(mm, .inr (4, [.ref ma, .ref mb, .int he])), (mb, .inl (cI, 600, .inl fb))]) (As := [.int x1]) (rest := []) (st0 := [.int x1, .ref mm]) ⟨hx, hb, hml, hown, hT⟩ (c_Memory_isValid0 l D cI cJ cZ cW cT s.heap.size mm ma mb he fb x1 him hp hq) (cwV 1 hT (tbV ml_Mach_136 im_Memory_isValid se_Memory_isValid in_Memory co_Memory_isValid) rfl rfl rfl v_Memory_isValid ⟨Nat.le_of_ble_eq_true rfl, Nat.le_of_ble_eq_true rfl⟩) hK hE hP hD hS hA [1, 2] rfl rfl 0 rfl rfl rfl hl.1 rfl (Nat.le_of_ble_eq_true rfl) d_Mach_peek_5 ⟨Nat.le_of_ble_eq_true rfl, Nat.le_of_ble_eq_true rfl⟩) hP hD hS hA [1, 2] [0] rfl rfl rfl (by decide) [0, 1, 2] rfl rfl (fun q1 H locs e1 k1 hP hD hS => ?_)
  have hP : va_P D classes [(hm, .inr (10, [.ref dd, .ref rr, .ref kc, .ref mm, .ref oo, .ref tt, .ref ww, .ref kk, .ref pp, .int lc])), (mm, .inr (4, [.ref ma, .ref mb, .int he])), (mb, .inl (cI, 600, .inl fb))] H := hP
  have hD : va_D A [(hm, .inr (10, [.ref dd, .ref rr, .ref kc, .ref mm, .ref oo, .ref tt, .ref ww, .ref kk, .ref pp, .int lc])), (mm, .inr (4, [.ref ma, .ref mb, .int he])), (mb, .inl (cI, 600, .inl fb))] := hD
  have hF := hF.trans (bd_e e1)
  refine lv_if_ne (tgt := 21) hx hb d_Mach_peek_8 (by decide) (fun c2 => ?_) (fun c2 => ?_)
  · exact False.elim (by have := ti_lo he; have := ti_hi he; have := ti_lo x1; have := ti_hi x1; have := ti_lo q1; have := ti_hi q1; have t1 : Int32.toInt 1 = 1 := rfl; have t0 : Int32.toInt 0 = 0 := rfl; (try simp only [true_or, or_true, true_and, and_true, z_tn, CellsOk, CallsOk, TextOk, MemOk, OutOk, Int32.lt_iff_toInt_lt, Int32.le_iff_toInt_le, ← Int32.toInt_inj, Int32.toInt_add, Int32.toInt_sub, Int32.toInt_mul, Int32.toInt_neg, zbm, zbm', t1, t0] at c2 him hp hq hn k1) <;> omega)
  · obtain ⟨qs, hstr⟩ := hE.1.2.2.2.2.2.2.2.2.2.2.2.2
    exact z_throw (names := xNames) (E := "java/lang/IndexOutOfBoundsException") hx hb (htl e B.admits) hown (hT _ kl_Mach_121) (hT _ in_IndexOutOfBoundsException) hstr x_fitB x_fitN (x_all _ x_B hT hE (va_Nw.use rfl hE.1.2.2.2.2.2.2.2.1)) hS hno (hl.1.trans hml.symm) hne hlocks d_Mach_peek_11 d_Mach_peek_14 d_Mach_peek_15 d_Mach_peek_17 d_Mach_peek_20 (Nat.le_of_ble_eq_true rfl) (Nat.le_of_ble_eq_true rfl) (Nat.le_of_ble_eq_true rfl) (Nat.le_of_ble_eq_true rfl)
