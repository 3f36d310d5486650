theorem co_Calls_size : (Jvm.Cond.code ({ cls := "ColonMachine$Calls", name := "size", desc := "()I" } : Jvm.MethodName) prog_2_method_2_code (1 : Nat) (Option.some Jvm.ClassFile.FieldType.int)) ∈ TB := tbI2 _ (List.mem_of_getElem? (i := 16) rfl) rfl
theorem fl_Calls_24 : (Jvm.Cond.fieldLink "ColonMachine$Calls" (24 : Nat) "ColonMachine$Calls" "size" "I") ∈ TB := tbI1 _ (List.mem_of_getElem? (i := 63) rfl) rfl
theorem co_Calls_isEmpty : (Jvm.Cond.code ({ cls := "ColonMachine$Calls", name := "isEmpty", desc := "()Z" } : Jvm.MethodName) prog_2_method_3_code (1 : Nat) (Option.some Jvm.ClassFile.FieldType.boolean)) ∈ TB := tbI2 _ (List.mem_of_getElem? (i := 190) rfl) rfl
theorem co_Calls_isFull : (Jvm.Cond.code ({ cls := "ColonMachine$Calls", name := "isFull", desc := "()Z" } : Jvm.MethodName) prog_2_method_4_code (1 : Nat) (Option.some Jvm.ClassFile.FieldType.boolean)) ∈ TB := tbI5 _ (List.mem_of_getElem? (i := 70) rfl) rfl
theorem co_Calls_add : (Jvm.Cond.code ({ cls := "ColonMachine$Calls", name := "add", desc := "(IIII)V" } : Jvm.MethodName) prog_2_method_7_code (5 : Nat) (Option.none : Option Jvm.ClassFile.FieldType)) ∈ TB := tbI5 _ (List.mem_of_getElem? (i := 79) rfl) rfl
theorem fl_Calls_11 : (Jvm.Cond.fieldLink "ColonMachine$Calls" (11 : Nat) "ColonMachine$Calls" "owners" "[I") ∈ TB := tbI1 _ (List.mem_of_getElem? (i := 59) rfl) rfl
theorem fl_Calls_15 : (Jvm.Cond.fieldLink "ColonMachine$Calls" (15 : Nat) "ColonMachine$Calls" "places" "[I") ∈ TB := tbI1 _ (List.mem_of_getElem? (i := 60) rfl) rfl
theorem fl_Calls_18 : (Jvm.Cond.fieldLink "ColonMachine$Calls" (18 : Nat) "ColonMachine$Calls" "returnSizes" "[I") ∈ TB := tbI1 _ (List.mem_of_getElem? (i := 61) rfl) rfl
theorem fl_Calls_21 : (Jvm.Cond.fieldLink "ColonMachine$Calls" (21 : Nat) "ColonMachine$Calls" "dataSizes" "[I") ∈ TB := tbI1 _ (List.mem_of_getElem? (i := 62) rfl) rfl
theorem co_Calls_begin : (Jvm.Cond.code ({ cls := "ColonMachine$Calls", name := "begin", desc := "(III)V" } : Jvm.MethodName) prog_2_method_5_code (4 : Nat) (Option.none : Option Jvm.ClassFile.FieldType)) ∈ TB := tbI6 _ (List.mem_of_getElem? (i := 135) rfl) rfl
theorem ml_Calls_28 : (Jvm.Cond.methodLink "ColonMachine$Calls" (28 : Nat) ({ cls := "ColonMachine$Calls", name := "add", desc := "(IIII)V" } : Jvm.MethodName)) ∈ TB := tbI5 _ (List.mem_of_getElem? (i := 76) rfl) rfl
theorem im_Calls_add : (Jvm.Cond.instanceMethod ({ cls := "ColonMachine$Calls", name := "add", desc := "(IIII)V" } : Jvm.MethodName)) ∈ TB := tbI5 _ (List.mem_of_getElem? (i := 78) rfl) rfl
theorem se_Calls_add : (Jvm.Cond.selects "ColonMachine$Calls" ({ cls := "ColonMachine$Calls", name := "add", desc := "(IIII)V" } : Jvm.MethodName) ({ cls := "ColonMachine$Calls", name := "add", desc := "(IIII)V" } : Jvm.MethodName)) ∈ TB := tbP _ (List.mem_of_getElem? (i := 28) rfl) rfl
theorem in_Calls : (Jvm.Cond.initialized "ColonMachine$Calls") ∈ TB := tbI1 _ (List.mem_of_getElem? (i := 3) rfl) rfl
theorem co_Calls_beginCatch : (Jvm.Cond.code ({ cls := "ColonMachine$Calls", name := "beginCatch", desc := "(II)V" } : Jvm.MethodName) prog_2_method_6_code (3 : Nat) (Option.none : Option Jvm.ClassFile.FieldType)) ∈ TB := tbI5 _ (List.mem_of_getElem? (i := 75) rfl) rfl
theorem co_Calls_cutTo : (Jvm.Cond.code ({ cls := "ColonMachine$Calls", name := "cutTo", desc := "(I)V" } : Jvm.MethodName) prog_2_method_9_code (2 : Nat) (Option.none : Option Jvm.ClassFile.FieldType)) ∈ TB := tbI5 _ (List.mem_of_getElem? (i := 204) rfl) rfl
theorem co_Calls_end : (Jvm.Cond.code ({ cls := "ColonMachine$Calls", name := "end", desc := "()V" } : Jvm.MethodName) prog_2_method_8_code (1 : Nat) (Option.none : Option Jvm.ClassFile.FieldType)) ∈ TB := tbI5 _ (List.mem_of_getElem? (i := 200) rfl) rfl
theorem ml_Calls_32 : (Jvm.Cond.methodLink "ColonMachine$Calls" (32 : Nat) ({ cls := "ColonMachine$Calls", name := "cutTo", desc := "(I)V" } : Jvm.MethodName)) ∈ TB := tbI5 _ (List.mem_of_getElem? (i := 201) rfl) rfl
theorem im_Calls_cutTo : (Jvm.Cond.instanceMethod ({ cls := "ColonMachine$Calls", name := "cutTo", desc := "(I)V" } : Jvm.MethodName)) ∈ TB := tbI5 _ (List.mem_of_getElem? (i := 202) rfl) rfl
theorem se_Calls_cutTo : (Jvm.Cond.selects "ColonMachine$Calls" ({ cls := "ColonMachine$Calls", name := "cutTo", desc := "(I)V" } : Jvm.MethodName) ({ cls := "ColonMachine$Calls", name := "cutTo", desc := "(I)V" } : Jvm.MethodName)) ∈ TB := tbI5 _ (List.mem_of_getElem? (i := 203) rfl) rfl
theorem co_Calls_topIsCatch : (Jvm.Cond.code ({ cls := "ColonMachine$Calls", name := "topIsCatch", desc := "()Z" } : Jvm.MethodName) prog_2_method_10_code (1 : Nat) (Option.some Jvm.ClassFile.FieldType.boolean)) ∈ TB := tbI6 _ (List.mem_of_getElem? (i := 163) rfl) rfl
theorem co_Calls_topIsBody : (Jvm.Cond.code ({ cls := "ColonMachine$Calls", name := "topIsBody", desc := "()Z" } : Jvm.MethodName) prog_2_method_11_code (1 : Nat) (Option.some Jvm.ClassFile.FieldType.boolean)) ∈ TB := tbI5 _ (List.mem_of_getElem? (i := 94) rfl) rfl
theorem co_Calls_topOwner : (Jvm.Cond.code ({ cls := "ColonMachine$Calls", name := "topOwner", desc := "()I" } : Jvm.MethodName) prog_2_method_12_code (1 : Nat) (Option.some Jvm.ClassFile.FieldType.int)) ∈ TB := tbI6 _ (List.mem_of_getElem? (i := 176) rfl) rfl
theorem co_Calls_topPlace : (Jvm.Cond.code ({ cls := "ColonMachine$Calls", name := "topPlace", desc := "()I" } : Jvm.MethodName) prog_2_method_13_code (1 : Nat) (Option.some Jvm.ClassFile.FieldType.int)) ∈ TB := tbI6 _ (List.mem_of_getElem? (i := 180) rfl) rfl
theorem co_Calls_goTo : (Jvm.Cond.code ({ cls := "ColonMachine$Calls", name := "goTo", desc := "(I)V" } : Jvm.MethodName) prog_2_method_14_code (2 : Nat) (Option.none : Option Jvm.ClassFile.FieldType)) ∈ TB := tbI6 _ (List.mem_of_getElem? (i := 184) rfl) rfl
theorem co_Calls_ownReturns : (Jvm.Cond.code ({ cls := "ColonMachine$Calls", name := "ownReturns", desc := "(I)I" } : Jvm.MethodName) prog_2_method_15_code (2 : Nat) (Option.some Jvm.ClassFile.FieldType.int)) ∈ TB := tbI5 _ (List.mem_of_getElem? (i := 102) rfl) rfl
theorem co_Calls_holdBodyFrom : (Jvm.Cond.code ({ cls := "ColonMachine$Calls", name := "holdBodyFrom", desc := "(I)Z" } : Jvm.MethodName) prog_2_method_16_code (3 : Nat) (Option.some Jvm.ClassFile.FieldType.boolean)) ∈ TB := tbI6 _ (List.mem_of_getElem? (i := 147) rfl) rfl
theorem co_Calls_latestCatch : (Jvm.Cond.code ({ cls := "ColonMachine$Calls", name := "latestCatch", desc := "()I" } : Jvm.MethodName) prog_2_method_17_code (2 : Nat) (Option.some Jvm.ClassFile.FieldType.int)) ∈ TB := tbI7 _ (List.mem_of_getElem? (i := 1) rfl) rfl
theorem co_Calls_returnsAt : (Jvm.Cond.code ({ cls := "ColonMachine$Calls", name := "returnsAt", desc := "(I)I" } : Jvm.MethodName) prog_2_method_18_code (2 : Nat) (Option.some Jvm.ClassFile.FieldType.int)) ∈ TB := tbI7 _ (List.mem_of_getElem? (i := 9) rfl) rfl
theorem co_Calls_dataAt : (Jvm.Cond.code ({ cls := "ColonMachine$Calls", name := "dataAt", desc := "(I)I" } : Jvm.MethodName) prog_2_method_19_code (2 : Nat) (Option.some Jvm.ClassFile.FieldType.int)) ∈ TB := tbI7 _ (List.mem_of_getElem? (i := 13) rfl) rfl
abbrev b_Calls_size : ByteArray := prog_2_method_2_code
def y_Calls_size : MethodName := { cls := "ColonMachine$Calls", name := "size", desc := "()I" }
abbrev w_Calls_size : List Cond := .code y_Calls_size b_Calls_size 1 (Option.some Jvm.ClassFile.FieldType.int) :: TB
abbrev b_Calls_isEmpty : ByteArray := prog_2_method_3_code
def y_Calls_isEmpty : MethodName := { cls := "ColonMachine$Calls", name := "isEmpty", desc := "()Z" }
abbrev w_Calls_isEmpty : List Cond := .code y_Calls_isEmpty b_Calls_isEmpty 1 (Option.some Jvm.ClassFile.FieldType.boolean) :: TB
abbrev b_Calls_isFull : ByteArray := prog_2_method_4_code
def y_Calls_isFull : MethodName := { cls := "ColonMachine$Calls", name := "isFull", desc := "()Z" }
abbrev w_Calls_isFull : List Cond := .code y_Calls_isFull b_Calls_isFull 1 (Option.some Jvm.ClassFile.FieldType.boolean) :: TB
abbrev b_Calls_add : ByteArray := prog_2_method_7_code
def y_Calls_add : MethodName := { cls := "ColonMachine$Calls", name := "add", desc := "(IIII)V" }
abbrev w_Calls_add : List Cond := .code y_Calls_add b_Calls_add 5 (Option.none : Option Jvm.ClassFile.FieldType) :: TB
abbrev b_Calls_begin : ByteArray := prog_2_method_5_code
def y_Calls_begin : MethodName := { cls := "ColonMachine$Calls", name := "begin", desc := "(III)V" }
abbrev w_Calls_begin : List Cond := .code y_Calls_begin b_Calls_begin 4 (Option.none : Option Jvm.ClassFile.FieldType) :: TB
theorem v_Calls_add : y_Calls_add.cls = "ColonMachine$Calls" ∧ y_Calls_add.cls ≠ "java/lang/invoke/MethodHandle" ∧ y_Calls_add.cls ≠ "java/lang/invoke/VarHandle" ∧ (parseMethodDescriptor y_Calls_add.desc).map (fun d => d.parameters.length) = some 4 := by decide +kernel
abbrev b_Calls_beginCatch : ByteArray := prog_2_method_6_code
def y_Calls_beginCatch : MethodName := { cls := "ColonMachine$Calls", name := "beginCatch", desc := "(II)V" }
abbrev w_Calls_beginCatch : List Cond := .code y_Calls_beginCatch b_Calls_beginCatch 3 (Option.none : Option Jvm.ClassFile.FieldType) :: TB
abbrev b_Calls_cutTo : ByteArray := prog_2_method_9_code
def y_Calls_cutTo : MethodName := { cls := "ColonMachine$Calls", name := "cutTo", desc := "(I)V" }
abbrev w_Calls_cutTo : List Cond := .code y_Calls_cutTo b_Calls_cutTo 2 (Option.none : Option Jvm.ClassFile.FieldType) :: TB
abbrev b_Calls_end : ByteArray := prog_2_method_8_code
def y_Calls_end : MethodName := { cls := "ColonMachine$Calls", name := "end", desc := "()V" }
abbrev w_Calls_end : List Cond := .code y_Calls_end b_Calls_end 1 (Option.none : Option Jvm.ClassFile.FieldType) :: TB
theorem v_Calls_cutTo : y_Calls_cutTo.cls = "ColonMachine$Calls" ∧ y_Calls_cutTo.cls ≠ "java/lang/invoke/MethodHandle" ∧ y_Calls_cutTo.cls ≠ "java/lang/invoke/VarHandle" ∧ (parseMethodDescriptor y_Calls_cutTo.desc).map (fun d => d.parameters.length) = some 1 := by decide +kernel
abbrev b_Calls_topIsCatch : ByteArray := prog_2_method_10_code
def y_Calls_topIsCatch : MethodName := { cls := "ColonMachine$Calls", name := "topIsCatch", desc := "()Z" }
abbrev w_Calls_topIsCatch : List Cond := .code y_Calls_topIsCatch b_Calls_topIsCatch 1 (Option.some Jvm.ClassFile.FieldType.boolean) :: TB
abbrev b_Calls_topIsBody : ByteArray := prog_2_method_11_code
def y_Calls_topIsBody : MethodName := { cls := "ColonMachine$Calls", name := "topIsBody", desc := "()Z" }
abbrev w_Calls_topIsBody : List Cond := .code y_Calls_topIsBody b_Calls_topIsBody 1 (Option.some Jvm.ClassFile.FieldType.boolean) :: TB
abbrev b_Calls_topOwner : ByteArray := prog_2_method_12_code
def y_Calls_topOwner : MethodName := { cls := "ColonMachine$Calls", name := "topOwner", desc := "()I" }
abbrev w_Calls_topOwner : List Cond := .code y_Calls_topOwner b_Calls_topOwner 1 (Option.some Jvm.ClassFile.FieldType.int) :: TB
abbrev b_Calls_topPlace : ByteArray := prog_2_method_13_code
def y_Calls_topPlace : MethodName := { cls := "ColonMachine$Calls", name := "topPlace", desc := "()I" }
abbrev w_Calls_topPlace : List Cond := .code y_Calls_topPlace b_Calls_topPlace 1 (Option.some Jvm.ClassFile.FieldType.int) :: TB
abbrev b_Calls_goTo : ByteArray := prog_2_method_14_code
def y_Calls_goTo : MethodName := { cls := "ColonMachine$Calls", name := "goTo", desc := "(I)V" }
abbrev w_Calls_goTo : List Cond := .code y_Calls_goTo b_Calls_goTo 2 (Option.none : Option Jvm.ClassFile.FieldType) :: TB
abbrev b_Calls_ownReturns : ByteArray := prog_2_method_15_code
def y_Calls_ownReturns : MethodName := { cls := "ColonMachine$Calls", name := "ownReturns", desc := "(I)I" }
abbrev w_Calls_ownReturns : List Cond := .code y_Calls_ownReturns b_Calls_ownReturns 2 (Option.some Jvm.ClassFile.FieldType.int) :: TB
abbrev b_Calls_holdBodyFrom : ByteArray := prog_2_method_16_code
def y_Calls_holdBodyFrom : MethodName := { cls := "ColonMachine$Calls", name := "holdBodyFrom", desc := "(I)Z" }
abbrev w_Calls_holdBodyFrom : List Cond := .code y_Calls_holdBodyFrom b_Calls_holdBodyFrom 3 (Option.some Jvm.ClassFile.FieldType.boolean) :: TB
abbrev b_Calls_latestCatch : ByteArray := prog_2_method_17_code
def y_Calls_latestCatch : MethodName := { cls := "ColonMachine$Calls", name := "latestCatch", desc := "()I" }
abbrev w_Calls_latestCatch : List Cond := .code y_Calls_latestCatch b_Calls_latestCatch 2 (Option.some Jvm.ClassFile.FieldType.int) :: TB
abbrev b_Calls_returnsAt : ByteArray := prog_2_method_18_code
def y_Calls_returnsAt : MethodName := { cls := "ColonMachine$Calls", name := "returnsAt", desc := "(I)I" }
abbrev w_Calls_returnsAt : List Cond := .code y_Calls_returnsAt b_Calls_returnsAt 2 (Option.some Jvm.ClassFile.FieldType.int) :: TB
abbrev b_Calls_dataAt : ByteArray := prog_2_method_19_code
def y_Calls_dataAt : MethodName := { cls := "ColonMachine$Calls", name := "dataAt", desc := "(I)I" }
abbrev w_Calls_dataAt : List Cond := .code y_Calls_dataAt b_Calls_dataAt 2 (Option.some Jvm.ClassFile.FieldType.int) :: TB
theorem d_Calls_size_0 : decode b_Calls_size 0 = .ok (.aload_n 0, 1) := by decide +kernel
theorem d_Calls_size_1 : decode b_Calls_size 1 = .ok (.getfield 24, 3) := by decide +kernel
theorem d_Calls_size_4 : decode b_Calls_size 4 = .ok (.ireturn, 1) := by decide +kernel
theorem d_Calls_isEmpty_0 : decode b_Calls_isEmpty 0 = .ok (.aload_n 0, 1) := by decide +kernel
theorem d_Calls_isEmpty_1 : decode b_Calls_isEmpty 1 = .ok (.getfield 24, 3) := by decide +kernel
theorem d_Calls_isEmpty_4 : decode b_Calls_isEmpty 4 = .ok (.ifCond .ne 7, 3) := by decide +kernel
theorem d_Calls_isEmpty_11 : decode b_Calls_isEmpty 11 = .ok (.iconst 0, 1) := by decide +kernel
theorem d_Calls_isEmpty_12 : decode b_Calls_isEmpty 12 = .ok (.ireturn, 1) := by decide +kernel
theorem d_Calls_isEmpty_7 : decode b_Calls_isEmpty 7 = .ok (.iconst 1, 1) := by decide +kernel
theorem d_Calls_isEmpty_8 : decode b_Calls_isEmpty 8 = .ok (.goto 4, 3) := by decide +kernel
theorem d_Calls_isFull_0 : decode b_Calls_isFull 0 = .ok (.aload_n 0, 1) := by decide +kernel
theorem d_Calls_isFull_1 : decode b_Calls_isFull 1 = .ok (.getfield 24, 3) := by decide +kernel
theorem d_Calls_isFull_4 : decode b_Calls_isFull 4 = .ok (.bipush 40, 2) := by decide +kernel
theorem d_Calls_isFull_6 : decode b_Calls_isFull 6 = .ok (.if_icmp .lt 7, 3) := by decide +kernel
theorem d_Calls_isFull_13 : decode b_Calls_isFull 13 = .ok (.iconst 0, 1) := by decide +kernel
theorem d_Calls_isFull_14 : decode b_Calls_isFull 14 = .ok (.ireturn, 1) := by decide +kernel
theorem d_Calls_isFull_9 : decode b_Calls_isFull 9 = .ok (.iconst 1, 1) := by decide +kernel
theorem d_Calls_isFull_10 : decode b_Calls_isFull 10 = .ok (.goto 4, 3) := by decide +kernel
theorem d_Calls_add_0 : decode b_Calls_add 0 = .ok (.aload_n 0, 1) := by decide +kernel
theorem d_Calls_add_1 : decode b_Calls_add 1 = .ok (.getfield 24, 3) := by decide +kernel
theorem d_Calls_add_4 : decode b_Calls_add 4 = .ok (.bipush 40, 2) := by decide +kernel
theorem d_Calls_add_6 : decode b_Calls_add 6 = .ok (.if_icmp .ge 54, 3) := by decide +kernel
theorem d_Calls_add_60 : decode b_Calls_add 60 = .ok (.return_, 1) := by decide +kernel
theorem d_Calls_add_9 : decode b_Calls_add 9 = .ok (.aload_n 0, 1) := by decide +kernel
theorem d_Calls_add_10 : decode b_Calls_add 10 = .ok (.getfield 11, 3) := by decide +kernel
theorem d_Calls_add_13 : decode b_Calls_add 13 = .ok (.aload_n 0, 1) := by decide +kernel
theorem d_Calls_add_14 : decode b_Calls_add 14 = .ok (.getfield 24, 3) := by decide +kernel
theorem d_Calls_add_17 : decode b_Calls_add 17 = .ok (.iload_n 1, 1) := by decide +kernel
theorem d_Calls_add_18 : decode b_Calls_add 18 = .ok (.iastore, 1) := by decide +kernel
theorem d_Calls_add_19 : decode b_Calls_add 19 = .ok (.aload_n 0, 1) := by decide +kernel
theorem d_Calls_add_20 : decode b_Calls_add 20 = .ok (.getfield 15, 3) := by decide +kernel
theorem d_Calls_add_23 : decode b_Calls_add 23 = .ok (.aload_n 0, 1) := by decide +kernel
theorem d_Calls_add_24 : decode b_Calls_add 24 = .ok (.getfield 24, 3) := by decide +kernel
theorem d_Calls_add_27 : decode b_Calls_add 27 = .ok (.iload_n 2, 1) := by decide +kernel
theorem d_Calls_add_28 : decode b_Calls_add 28 = .ok (.iastore, 1) := by decide +kernel
theorem d_Calls_add_29 : decode b_Calls_add 29 = .ok (.aload_n 0, 1) := by decide +kernel
theorem d_Calls_add_30 : decode b_Calls_add 30 = .ok (.getfield 18, 3) := by decide +kernel
theorem d_Calls_add_33 : decode b_Calls_add 33 = .ok (.aload_n 0, 1) := by decide +kernel
theorem d_Calls_add_34 : decode b_Calls_add 34 = .ok (.getfield 24, 3) := by decide +kernel
theorem d_Calls_add_37 : decode b_Calls_add 37 = .ok (.iload_n 3, 1) := by decide +kernel
theorem d_Calls_add_38 : decode b_Calls_add 38 = .ok (.iastore, 1) := by decide +kernel
theorem d_Calls_add_39 : decode b_Calls_add 39 = .ok (.aload_n 0, 1) := by decide +kernel
theorem d_Calls_add_40 : decode b_Calls_add 40 = .ok (.getfield 21, 3) := by decide +kernel
theorem d_Calls_add_43 : decode b_Calls_add 43 = .ok (.aload_n 0, 1) := by decide +kernel
theorem d_Calls_add_44 : decode b_Calls_add 44 = .ok (.getfield 24, 3) := by decide +kernel
theorem d_Calls_add_47 : decode b_Calls_add 47 = .ok (.iload 4, 2) := by decide +kernel
theorem d_Calls_add_49 : decode b_Calls_add 49 = .ok (.iastore, 1) := by decide +kernel
theorem d_Calls_add_50 : decode b_Calls_add 50 = .ok (.aload_n 0, 1) := by decide +kernel
theorem d_Calls_add_51 : decode b_Calls_add 51 = .ok (.dup, 1) := by decide +kernel
theorem d_Calls_add_52 : decode b_Calls_add 52 = .ok (.getfield 24, 3) := by decide +kernel
theorem d_Calls_add_55 : decode b_Calls_add 55 = .ok (.iconst 1, 1) := by decide +kernel
theorem d_Calls_add_56 : decode b_Calls_add 56 = .ok (.iadd, 1) := by decide +kernel
theorem d_Calls_add_57 : decode b_Calls_add 57 = .ok (.putfield 24, 3) := by decide +kernel
theorem d_Calls_begin_0 : decode b_Calls_begin 0 = .ok (.aload_n 0, 1) := by decide +kernel
theorem d_Calls_begin_1 : decode b_Calls_begin 1 = .ok (.iload_n 1, 1) := by decide +kernel
theorem d_Calls_begin_2 : decode b_Calls_begin 2 = .ok (.iload_n 2, 1) := by decide +kernel
theorem d_Calls_begin_3 : decode b_Calls_begin 3 = .ok (.iload_n 3, 1) := by decide +kernel
theorem d_Calls_begin_4 : decode b_Calls_begin 4 = .ok (.iconst 0, 1) := by decide +kernel
theorem d_Calls_begin_5 : decode b_Calls_begin 5 = .ok (.invokevirtual 28, 3) := by decide +kernel
theorem d_Calls_begin_8 : decode b_Calls_begin 8 = .ok (.return_, 1) := by decide +kernel
theorem d_Calls_beginCatch_0 : decode b_Calls_beginCatch 0 = .ok (.aload_n 0, 1) := by decide +kernel
theorem d_Calls_beginCatch_1 : decode b_Calls_beginCatch 1 = .ok (.iconst (-1), 1) := by decide +kernel
theorem d_Calls_beginCatch_2 : decode b_Calls_beginCatch 2 = .ok (.iconst 0, 1) := by decide +kernel
theorem d_Calls_beginCatch_3 : decode b_Calls_beginCatch 3 = .ok (.iload_n 1, 1) := by decide +kernel
theorem d_Calls_beginCatch_4 : decode b_Calls_beginCatch 4 = .ok (.iload_n 2, 1) := by decide +kernel
theorem d_Calls_beginCatch_5 : decode b_Calls_beginCatch 5 = .ok (.invokevirtual 28, 3) := by decide +kernel
theorem d_Calls_beginCatch_8 : decode b_Calls_beginCatch 8 = .ok (.return_, 1) := by decide +kernel
theorem d_Calls_cutTo_0 : decode b_Calls_cutTo 0 = .ok (.iload_n 1, 1) := by decide +kernel
theorem d_Calls_cutTo_1 : decode b_Calls_cutTo 1 = .ok (.ifCond .lt 16, 3) := by decide +kernel
theorem d_Calls_cutTo_17 : decode b_Calls_cutTo 17 = .ok (.return_, 1) := by decide +kernel
theorem d_Calls_cutTo_4 : decode b_Calls_cutTo 4 = .ok (.iload_n 1, 1) := by decide +kernel
theorem d_Calls_cutTo_5 : decode b_Calls_cutTo 5 = .ok (.aload_n 0, 1) := by decide +kernel
theorem d_Calls_cutTo_6 : decode b_Calls_cutTo 6 = .ok (.getfield 24, 3) := by decide +kernel
theorem d_Calls_cutTo_9 : decode b_Calls_cutTo 9 = .ok (.if_icmp .ge 8, 3) := by decide +kernel
theorem d_Calls_cutTo_12 : decode b_Calls_cutTo 12 = .ok (.aload_n 0, 1) := by decide +kernel
theorem d_Calls_cutTo_13 : decode b_Calls_cutTo 13 = .ok (.iload_n 1, 1) := by decide +kernel
theorem d_Calls_cutTo_14 : decode b_Calls_cutTo 14 = .ok (.putfield 24, 3) := by decide +kernel
theorem d_Calls_end_0 : decode b_Calls_end 0 = .ok (.aload_n 0, 1) := by decide +kernel
theorem d_Calls_end_1 : decode b_Calls_end 1 = .ok (.aload_n 0, 1) := by decide +kernel
theorem d_Calls_end_2 : decode b_Calls_end 2 = .ok (.getfield 24, 3) := by decide +kernel
theorem d_Calls_end_5 : decode b_Calls_end 5 = .ok (.iconst 1, 1) := by decide +kernel
theorem d_Calls_end_6 : decode b_Calls_end 6 = .ok (.isub, 1) := by decide +kernel
theorem d_Calls_end_7 : decode b_Calls_end 7 = .ok (.invokevirtual 32, 3) := by decide +kernel
theorem d_Calls_end_10 : decode b_Calls_end 10 = .ok (.return_, 1) := by decide +kernel
theorem d_Calls_topIsCatch_0 : decode b_Calls_topIsCatch 0 = .ok (.aload_n 0, 1) := by decide +kernel
theorem d_Calls_topIsCatch_1 : decode b_Calls_topIsCatch 1 = .ok (.getfield 24, 3) := by decide +kernel
theorem d_Calls_topIsCatch_4 : decode b_Calls_topIsCatch 4 = .ok (.ifCond .le 22, 3) := by decide +kernel
theorem d_Calls_topIsCatch_26 : decode b_Calls_topIsCatch 26 = .ok (.iconst 0, 1) := by decide +kernel
theorem d_Calls_topIsCatch_27 : decode b_Calls_topIsCatch 27 = .ok (.ireturn, 1) := by decide +kernel
theorem d_Calls_topIsCatch_7 : decode b_Calls_topIsCatch 7 = .ok (.aload_n 0, 1) := by decide +kernel
theorem d_Calls_topIsCatch_8 : decode b_Calls_topIsCatch 8 = .ok (.getfield 11, 3) := by decide +kernel
theorem d_Calls_topIsCatch_11 : decode b_Calls_topIsCatch 11 = .ok (.aload_n 0, 1) := by decide +kernel
theorem d_Calls_topIsCatch_12 : decode b_Calls_topIsCatch 12 = .ok (.getfield 24, 3) := by decide +kernel
theorem d_Calls_topIsCatch_15 : decode b_Calls_topIsCatch 15 = .ok (.iconst 1, 1) := by decide +kernel
theorem d_Calls_topIsCatch_16 : decode b_Calls_topIsCatch 16 = .ok (.isub, 1) := by decide +kernel
theorem d_Calls_topIsCatch_17 : decode b_Calls_topIsCatch 17 = .ok (.iaload, 1) := by decide +kernel
theorem d_Calls_topIsCatch_18 : decode b_Calls_topIsCatch 18 = .ok (.iconst (-1), 1) := by decide +kernel
theorem d_Calls_topIsCatch_19 : decode b_Calls_topIsCatch 19 = .ok (.if_icmp .ne 7, 3) := by decide +kernel
theorem d_Calls_topIsCatch_22 : decode b_Calls_topIsCatch 22 = .ok (.iconst 1, 1) := by decide +kernel
theorem d_Calls_topIsCatch_23 : decode b_Calls_topIsCatch 23 = .ok (.goto 4, 3) := by decide +kernel
theorem d_Calls_topIsBody_0 : decode b_Calls_topIsBody 0 = .ok (.aload_n 0, 1) := by decide +kernel
theorem d_Calls_topIsBody_1 : decode b_Calls_topIsBody 1 = .ok (.getfield 24, 3) := by decide +kernel
theorem d_Calls_topIsBody_4 : decode b_Calls_topIsBody 4 = .ok (.ifCond .le 22, 3) := by decide +kernel
theorem d_Calls_topIsBody_26 : decode b_Calls_topIsBody 26 = .ok (.iconst 0, 1) := by decide +kernel
theorem d_Calls_topIsBody_27 : decode b_Calls_topIsBody 27 = .ok (.ireturn, 1) := by decide +kernel
theorem d_Calls_topIsBody_7 : decode b_Calls_topIsBody 7 = .ok (.aload_n 0, 1) := by decide +kernel
theorem d_Calls_topIsBody_8 : decode b_Calls_topIsBody 8 = .ok (.getfield 11, 3) := by decide +kernel
theorem d_Calls_topIsBody_11 : decode b_Calls_topIsBody 11 = .ok (.aload_n 0, 1) := by decide +kernel
theorem d_Calls_topIsBody_12 : decode b_Calls_topIsBody 12 = .ok (.getfield 24, 3) := by decide +kernel
theorem d_Calls_topIsBody_15 : decode b_Calls_topIsBody 15 = .ok (.iconst 1, 1) := by decide +kernel
theorem d_Calls_topIsBody_16 : decode b_Calls_topIsBody 16 = .ok (.isub, 1) := by decide +kernel
theorem d_Calls_topIsBody_17 : decode b_Calls_topIsBody 17 = .ok (.iaload, 1) := by decide +kernel
theorem d_Calls_topIsBody_18 : decode b_Calls_topIsBody 18 = .ok (.iconst (-1), 1) := by decide +kernel
theorem d_Calls_topIsBody_19 : decode b_Calls_topIsBody 19 = .ok (.if_icmp .eq 7, 3) := by decide +kernel
theorem d_Calls_topIsBody_22 : decode b_Calls_topIsBody 22 = .ok (.iconst 1, 1) := by decide +kernel
theorem d_Calls_topIsBody_23 : decode b_Calls_topIsBody 23 = .ok (.goto 4, 3) := by decide +kernel
theorem d_Calls_topOwner_0 : decode b_Calls_topOwner 0 = .ok (.aload_n 0, 1) := by decide +kernel
theorem d_Calls_topOwner_1 : decode b_Calls_topOwner 1 = .ok (.getfield 24, 3) := by decide +kernel
theorem d_Calls_topOwner_4 : decode b_Calls_topOwner 4 = .ok (.ifCond .le 17, 3) := by decide +kernel
theorem d_Calls_topOwner_21 : decode b_Calls_topOwner 21 = .ok (.iconst (-1), 1) := by decide +kernel
theorem d_Calls_topOwner_22 : decode b_Calls_topOwner 22 = .ok (.ireturn, 1) := by decide +kernel
theorem d_Calls_topOwner_7 : decode b_Calls_topOwner 7 = .ok (.aload_n 0, 1) := by decide +kernel
theorem d_Calls_topOwner_8 : decode b_Calls_topOwner 8 = .ok (.getfield 11, 3) := by decide +kernel
theorem d_Calls_topOwner_11 : decode b_Calls_topOwner 11 = .ok (.aload_n 0, 1) := by decide +kernel
theorem d_Calls_topOwner_12 : decode b_Calls_topOwner 12 = .ok (.getfield 24, 3) := by decide +kernel
theorem d_Calls_topOwner_15 : decode b_Calls_topOwner 15 = .ok (.iconst 1, 1) := by decide +kernel
theorem d_Calls_topOwner_16 : decode b_Calls_topOwner 16 = .ok (.isub, 1) := by decide +kernel
theorem d_Calls_topOwner_17 : decode b_Calls_topOwner 17 = .ok (.iaload, 1) := by decide +kernel
theorem d_Calls_topOwner_18 : decode b_Calls_topOwner 18 = .ok (.goto 4, 3) := by decide +kernel
theorem d_Calls_topPlace_0 : decode b_Calls_topPlace 0 = .ok (.aload_n 0, 1) := by decide +kernel
theorem d_Calls_topPlace_1 : decode b_Calls_topPlace 1 = .ok (.getfield 24, 3) := by decide +kernel
theorem d_Calls_topPlace_4 : decode b_Calls_topPlace 4 = .ok (.ifCond .le 17, 3) := by decide +kernel
theorem d_Calls_topPlace_21 : decode b_Calls_topPlace 21 = .ok (.iconst 0, 1) := by decide +kernel
theorem d_Calls_topPlace_22 : decode b_Calls_topPlace 22 = .ok (.ireturn, 1) := by decide +kernel
theorem d_Calls_topPlace_7 : decode b_Calls_topPlace 7 = .ok (.aload_n 0, 1) := by decide +kernel
theorem d_Calls_topPlace_8 : decode b_Calls_topPlace 8 = .ok (.getfield 15, 3) := by decide +kernel
theorem d_Calls_topPlace_11 : decode b_Calls_topPlace 11 = .ok (.aload_n 0, 1) := by decide +kernel
theorem d_Calls_topPlace_12 : decode b_Calls_topPlace 12 = .ok (.getfield 24, 3) := by decide +kernel
theorem d_Calls_topPlace_15 : decode b_Calls_topPlace 15 = .ok (.iconst 1, 1) := by decide +kernel
theorem d_Calls_topPlace_16 : decode b_Calls_topPlace 16 = .ok (.isub, 1) := by decide +kernel
theorem d_Calls_topPlace_17 : decode b_Calls_topPlace 17 = .ok (.iaload, 1) := by decide +kernel
theorem d_Calls_topPlace_18 : decode b_Calls_topPlace 18 = .ok (.goto 4, 3) := by decide +kernel
theorem d_Calls_goTo_0 : decode b_Calls_goTo 0 = .ok (.aload_n 0, 1) := by decide +kernel
theorem d_Calls_goTo_1 : decode b_Calls_goTo 1 = .ok (.getfield 24, 3) := by decide +kernel
theorem d_Calls_goTo_4 : decode b_Calls_goTo 4 = .ok (.ifCond .le 15, 3) := by decide +kernel
theorem d_Calls_goTo_19 : decode b_Calls_goTo 19 = .ok (.return_, 1) := by decide +kernel
theorem d_Calls_goTo_7 : decode b_Calls_goTo 7 = .ok (.aload_n 0, 1) := by decide +kernel
theorem d_Calls_goTo_8 : decode b_Calls_goTo 8 = .ok (.getfield 15, 3) := by decide +kernel
theorem d_Calls_goTo_11 : decode b_Calls_goTo 11 = .ok (.aload_n 0, 1) := by decide +kernel
theorem d_Calls_goTo_12 : decode b_Calls_goTo 12 = .ok (.getfield 24, 3) := by decide +kernel
theorem d_Calls_goTo_15 : decode b_Calls_goTo 15 = .ok (.iconst 1, 1) := by decide +kernel
theorem d_Calls_goTo_16 : decode b_Calls_goTo 16 = .ok (.isub, 1) := by decide +kernel
theorem d_Calls_goTo_17 : decode b_Calls_goTo 17 = .ok (.iload_n 1, 1) := by decide +kernel
theorem d_Calls_goTo_18 : decode b_Calls_goTo 18 = .ok (.iastore, 1) := by decide +kernel
theorem d_Calls_ownReturns_0 : decode b_Calls_ownReturns 0 = .ok (.aload_n 0, 1) := by decide +kernel
theorem d_Calls_ownReturns_1 : decode b_Calls_ownReturns 1 = .ok (.getfield 24, 3) := by decide +kernel
theorem d_Calls_ownReturns_4 : decode b_Calls_ownReturns 4 = .ok (.ifCond .le 19, 3) := by decide +kernel
theorem d_Calls_ownReturns_23 : decode b_Calls_ownReturns 23 = .ok (.iconst 0, 1) := by decide +kernel
theorem d_Calls_ownReturns_24 : decode b_Calls_ownReturns 24 = .ok (.ireturn, 1) := by decide +kernel
theorem d_Calls_ownReturns_7 : decode b_Calls_ownReturns 7 = .ok (.iload_n 1, 1) := by decide +kernel
theorem d_Calls_ownReturns_8 : decode b_Calls_ownReturns 8 = .ok (.aload_n 0, 1) := by decide +kernel
theorem d_Calls_ownReturns_9 : decode b_Calls_ownReturns 9 = .ok (.getfield 18, 3) := by decide +kernel
theorem d_Calls_ownReturns_12 : decode b_Calls_ownReturns 12 = .ok (.aload_n 0, 1) := by decide +kernel
theorem d_Calls_ownReturns_13 : decode b_Calls_ownReturns 13 = .ok (.getfield 24, 3) := by decide +kernel
theorem d_Calls_ownReturns_16 : decode b_Calls_ownReturns 16 = .ok (.iconst 1, 1) := by decide +kernel
theorem d_Calls_ownReturns_17 : decode b_Calls_ownReturns 17 = .ok (.isub, 1) := by decide +kernel
theorem d_Calls_ownReturns_18 : decode b_Calls_ownReturns 18 = .ok (.iaload, 1) := by decide +kernel
theorem d_Calls_ownReturns_19 : decode b_Calls_ownReturns 19 = .ok (.isub, 1) := by decide +kernel
theorem d_Calls_ownReturns_20 : decode b_Calls_ownReturns 20 = .ok (.goto 4, 3) := by decide +kernel
theorem d_Calls_holdBodyFrom_0 : decode b_Calls_holdBodyFrom 0 = .ok (.iconst 0, 1) := by decide +kernel
theorem d_Calls_holdBodyFrom_1 : decode b_Calls_holdBodyFrom 1 = .ok (.istore_n 2, 1) := by decide +kernel
theorem d_Calls_holdBodyFrom_2 : decode b_Calls_holdBodyFrom 2 = .ok (.iload_n 2, 1) := by decide +kernel
theorem d_Calls_holdBodyFrom_3 : decode b_Calls_holdBodyFrom 3 = .ok (.aload_n 0, 1) := by decide +kernel
theorem d_Calls_holdBodyFrom_4 : decode b_Calls_holdBodyFrom 4 = .ok (.getfield 24, 3) := by decide +kernel
theorem d_Calls_holdBodyFrom_7 : decode b_Calls_holdBodyFrom 7 = .ok (.if_icmp .ge 21, 3) := by decide +kernel
theorem d_Calls_holdBodyFrom_28 : decode b_Calls_holdBodyFrom 28 = .ok (.iconst 0, 1) := by decide +kernel
theorem d_Calls_holdBodyFrom_29 : decode b_Calls_holdBodyFrom 29 = .ok (.ireturn, 1) := by decide +kernel
theorem d_Calls_holdBodyFrom_10 : decode b_Calls_holdBodyFrom 10 = .ok (.aload_n 0, 1) := by decide +kernel
theorem d_Calls_holdBodyFrom_11 : decode b_Calls_holdBodyFrom 11 = .ok (.getfield 11, 3) := by decide +kernel
theorem d_Calls_holdBodyFrom_14 : decode b_Calls_holdBodyFrom 14 = .ok (.iload_n 2, 1) := by decide +kernel
theorem d_Calls_holdBodyFrom_15 : decode b_Calls_holdBodyFrom 15 = .ok (.iaload, 1) := by decide +kernel
theorem d_Calls_holdBodyFrom_16 : decode b_Calls_holdBodyFrom 16 = .ok (.iload_n 1, 1) := by decide +kernel
theorem d_Calls_holdBodyFrom_17 : decode b_Calls_holdBodyFrom 17 = .ok (.if_icmp .lt 5, 3) := by decide +kernel
theorem d_Calls_holdBodyFrom_22 : decode b_Calls_holdBodyFrom 22 = .ok (.iinc 2 1, 3) := by decide +kernel
theorem d_Calls_holdBodyFrom_25 : decode b_Calls_holdBodyFrom 25 = .ok (.goto (-23), 3) := by decide +kernel
theorem d_Calls_holdBodyFrom_20 : decode b_Calls_holdBodyFrom 20 = .ok (.iconst 1, 1) := by decide +kernel
theorem d_Calls_holdBodyFrom_21 : decode b_Calls_holdBodyFrom 21 = .ok (.ireturn, 1) := by decide +kernel
theorem d_Calls_latestCatch_0 : decode b_Calls_latestCatch 0 = .ok (.aload_n 0, 1) := by decide +kernel
theorem d_Calls_latestCatch_1 : decode b_Calls_latestCatch 1 = .ok (.getfield 24, 3) := by decide +kernel
theorem d_Calls_latestCatch_4 : decode b_Calls_latestCatch 4 = .ok (.iconst 1, 1) := by decide +kernel
theorem d_Calls_latestCatch_5 : decode b_Calls_latestCatch 5 = .ok (.isub, 1) := by decide +kernel
theorem d_Calls_latestCatch_6 : decode b_Calls_latestCatch 6 = .ok (.istore_n 1, 1) := by decide +kernel
theorem d_Calls_latestCatch_7 : decode b_Calls_latestCatch 7 = .ok (.iload_n 1, 1) := by decide +kernel
theorem d_Calls_latestCatch_8 : decode b_Calls_latestCatch 8 = .ok (.ifCond .lt 21, 3) := by decide +kernel
theorem d_Calls_latestCatch_29 : decode b_Calls_latestCatch 29 = .ok (.iconst (-1), 1) := by decide +kernel
theorem d_Calls_latestCatch_30 : decode b_Calls_latestCatch 30 = .ok (.ireturn, 1) := by decide +kernel
theorem d_Calls_latestCatch_11 : decode b_Calls_latestCatch 11 = .ok (.aload_n 0, 1) := by decide +kernel
theorem d_Calls_latestCatch_12 : decode b_Calls_latestCatch 12 = .ok (.getfield 11, 3) := by decide +kernel
theorem d_Calls_latestCatch_15 : decode b_Calls_latestCatch 15 = .ok (.iload_n 1, 1) := by decide +kernel
theorem d_Calls_latestCatch_16 : decode b_Calls_latestCatch 16 = .ok (.iaload, 1) := by decide +kernel
theorem d_Calls_latestCatch_17 : decode b_Calls_latestCatch 17 = .ok (.iconst (-1), 1) := by decide +kernel
theorem d_Calls_latestCatch_18 : decode b_Calls_latestCatch 18 = .ok (.if_icmp .ne 5, 3) := by decide +kernel
theorem d_Calls_latestCatch_23 : decode b_Calls_latestCatch 23 = .ok (.iinc 1 (-1), 3) := by decide +kernel
theorem d_Calls_latestCatch_26 : decode b_Calls_latestCatch 26 = .ok (.goto (-19), 3) := by decide +kernel
theorem d_Calls_latestCatch_21 : decode b_Calls_latestCatch 21 = .ok (.iload_n 1, 1) := by decide +kernel
theorem d_Calls_latestCatch_22 : decode b_Calls_latestCatch 22 = .ok (.ireturn, 1) := by decide +kernel
theorem d_Calls_returnsAt_0 : decode b_Calls_returnsAt 0 = .ok (.iload_n 1, 1) := by decide +kernel
theorem d_Calls_returnsAt_1 : decode b_Calls_returnsAt 1 = .ok (.ifCond .lt 20, 3) := by decide +kernel
theorem d_Calls_returnsAt_21 : decode b_Calls_returnsAt 21 = .ok (.iconst 0, 1) := by decide +kernel
theorem d_Calls_returnsAt_22 : decode b_Calls_returnsAt 22 = .ok (.ireturn, 1) := by decide +kernel
theorem d_Calls_returnsAt_4 : decode b_Calls_returnsAt 4 = .ok (.iload_n 1, 1) := by decide +kernel
theorem d_Calls_returnsAt_5 : decode b_Calls_returnsAt 5 = .ok (.aload_n 0, 1) := by decide +kernel
theorem d_Calls_returnsAt_6 : decode b_Calls_returnsAt 6 = .ok (.getfield 24, 3) := by decide +kernel
theorem d_Calls_returnsAt_9 : decode b_Calls_returnsAt 9 = .ok (.if_icmp .ge 12, 3) := by decide +kernel
theorem d_Calls_returnsAt_12 : decode b_Calls_returnsAt 12 = .ok (.aload_n 0, 1) := by decide +kernel
theorem d_Calls_returnsAt_13 : decode b_Calls_returnsAt 13 = .ok (.getfield 18, 3) := by decide +kernel
theorem d_Calls_returnsAt_16 : decode b_Calls_returnsAt 16 = .ok (.iload_n 1, 1) := by decide +kernel
theorem d_Calls_returnsAt_17 : decode b_Calls_returnsAt 17 = .ok (.iaload, 1) := by decide +kernel
theorem d_Calls_returnsAt_18 : decode b_Calls_returnsAt 18 = .ok (.goto 4, 3) := by decide +kernel
theorem d_Calls_dataAt_0 : decode b_Calls_dataAt 0 = .ok (.iload_n 1, 1) := by decide +kernel
theorem d_Calls_dataAt_1 : decode b_Calls_dataAt 1 = .ok (.ifCond .lt 20, 3) := by decide +kernel
theorem d_Calls_dataAt_21 : decode b_Calls_dataAt 21 = .ok (.iconst 0, 1) := by decide +kernel
theorem d_Calls_dataAt_22 : decode b_Calls_dataAt 22 = .ok (.ireturn, 1) := by decide +kernel
theorem d_Calls_dataAt_4 : decode b_Calls_dataAt 4 = .ok (.iload_n 1, 1) := by decide +kernel
theorem d_Calls_dataAt_5 : decode b_Calls_dataAt 5 = .ok (.aload_n 0, 1) := by decide +kernel
theorem d_Calls_dataAt_6 : decode b_Calls_dataAt 6 = .ok (.getfield 24, 3) := by decide +kernel
theorem d_Calls_dataAt_9 : decode b_Calls_dataAt 9 = .ok (.if_icmp .ge 12, 3) := by decide +kernel
theorem d_Calls_dataAt_12 : decode b_Calls_dataAt 12 = .ok (.aload_n 0, 1) := by decide +kernel
theorem d_Calls_dataAt_13 : decode b_Calls_dataAt 13 = .ok (.getfield 21, 3) := by decide +kernel
theorem d_Calls_dataAt_16 : decode b_Calls_dataAt 16 = .ok (.iload_n 1, 1) := by decide +kernel
theorem d_Calls_dataAt_17 : decode b_Calls_dataAt 17 = .ok (.iaload, 1) := by decide +kernel
theorem d_Calls_dataAt_18 : decode b_Calls_dataAt 18 = .ok (.goto 4, 3) := by decide +kernel
/-- the picture of ColonMachine$Calls.size -/
def F_Calls_size (n : Int32) : Int32 := n
theorem F_Calls_size_e (n : Int32) : F_Calls_size n = n := rfl
set_option maxHeartbeats 4000000 in
set_option maxRecDepth 100000 in
theorem c_Calls_size (l : Launch) (D : va_G) (cI cJ cZ cW cT : ClassId) (sz : Nat) (h : Nat) (ao : Nat) (ap : Nat) (ar : Nat) (ad : Nat) (n : Int32) (hi : CallsOk n) : Met l y_Calls_size w_Calls_size ({ frames := 0, cells := 0, slots := 0, locals := 0 }) (va_Pc [.ref h] (zP D classes (TY cI cJ cZ cW cT) [(h, .inr (0, [.ref ao, .ref ap, .ref ar, .ref ad, .int n]))] sz)) (va_Qi (fun (r : Int32) (_ : Unit) => r = F_Calls_size n ∧ (True)) (fun _ => zB D classes (TY cI cJ cZ cW cT) (va_A [(h, .inr (0, [.ref ao, .ref ap, .ref ar, .ref ad, .int n]))] sz) [(h, .inr (0, [.ref ao, .ref ap, .ref ar, .ref ad, .int n]))]) (va_A [(h, .inr (0, [.ref ao, .ref ap, .ref ar, .ref ad, .int n]))] sz)) 0 0 (va_A [(h, .inr (0, [.ref ao, .ref ap, .ref ar, .ref ad, .int n]))] sz) := by
  refine Met.ofW (cc := b_Calls_size) (maxL := 1) (ret := (some .int)) (by decide) rfl ?_
  intro p e s m args below meth c s₁ B hml hv
  obtain ⟨rfl, hsz, hP, hK, hD0, hE⟩ := hv
  have hx := B.exec
  have hb := B.bytes
  have hr := B.returns
  have hts := atoms_spec (ws := w_Calls_size) B.pre
  have hT : ∀ w ∈ TB, w.before _ s = true := fun w h => hts w (List.mem_cons_of_mem _ h)
  have hown : s.vm.findClass "ColonMachine$Calls" = some m.cls := findClass_of_methodNamed B.named
  have hlocks := B.notSynchronized
  subst hsz
  have hD := hD0.self (sz := s.heap.size)
  generalize hAe : va_A [(h, .inr (0, [.ref ao, .ref ap, .ref ar, .ref ad, .int n]))] s.heap.size = A at hD hE ⊢
  have hA : ∀ q : Nat, s.heap.size ≤ q → A q := fun q h => by rw [← hAe]; exact Or.inr h
  have hS : va_S A s.heap s.heap [] := va_S.rf
  have hl := lv_entry [.ref h] (n := 1) (Nat.le_of_ble_eq_true rfl)
  rw [lg_entry_eq]
  generalize (lg_sl [.ref h] ++ List.replicate (1 - (lg_sl [.ref h]).length) Slot.unset).toArray = ls at hl ⊢
  have hl : lv_has ls 1 [(0, .ref h)] := hl
  have hF := F_Calls_size_e n
  refine lv_aload_n hx hb d_Calls_size_0 rfl (lv_at hl 0 rfl) ?_
  refine va_get (D := D) (v := .int n) (C := "ColonMachine$Calls") (T := T_Calls) (N := 5) hx hb hT i_Calls hown hK hP 0 rfl rfl 4 (by decide) (hT _ fl_Calls_24) (fun _ h9 => h9) rfl d_Calls_size_1 ?_
  exact W.iret (v := n) hx hb hr (fun t ht hW => ⟨⟨_, (), rfl, ⟨hF.symm, trivial⟩, ⟨by rw [ht]; exact hP, va_K.moved hW.alike hK, hD⟩⟩, hS.F ht⟩) hS.2.2 d_Calls_size_4
/-- the picture of ColonMachine$Calls.isEmpty -/
def F_Calls_isEmpty (n : Int32) : Int32 := if n = 0 then 1 else 0
theorem F_Calls_isEmpty_e (n : Int32) : F_Calls_isEmpty n = if n = 0 then 1 else 0 := rfl
set_option maxHeartbeats 4000000 in
set_option maxRecDepth 100000 in
theorem c_Calls_isEmpty (l : Launch) (D : va_G) (cI cJ cZ cW cT : ClassId) (sz : Nat) (h : Nat) (ao : Nat) (ap : Nat) (ar : Nat) (ad : Nat) (n : Int32) (hi : CallsOk n) : Met l y_Calls_isEmpty w_Calls_isEmpty ({ frames := 0, cells := 0, slots := 0, locals := 0 }) (va_Pc [.ref h] (zP D classes (TY cI cJ cZ cW cT) [(h, .inr (0, [.ref ao, .ref ap, .ref ar, .ref ad, .int n]))] sz)) (va_Qi (fun (r : Int32) (_ : Unit) => r = F_Calls_isEmpty n ∧ ((r.toInt = 1 ∧ n.toInt = 0 ∨ r.toInt = 0 ∧ ¬ n.toInt = 0) ∧ (r = 0 ∨ r = 1))) (fun _ => zB D classes (TY cI cJ cZ cW cT) (va_A [(h, .inr (0, [.ref ao, .ref ap, .ref ar, .ref ad, .int n]))] sz) [(h, .inr (0, [.ref ao, .ref ap, .ref ar, .ref ad, .int n]))]) (va_A [(h, .inr (0, [.ref ao, .ref ap, .ref ar, .ref ad, .int n]))] sz)) 0 0 (va_A [(h, .inr (0, [.ref ao, .ref ap, .ref ar, .ref ad, .int n]))] sz) := by
  refine Met.ofW (cc := b_Calls_isEmpty) (maxL := 1) (ret := (some .boolean)) (by decide) rfl ?_
  intro p e s m args below meth c s₁ B hml hv
  obtain ⟨rfl, hsz, hP, hK, hD0, hE⟩ := hv
  have hx := B.exec
  have hb := B.bytes
  have hr := B.returns
  have hts := atoms_spec (ws := w_Calls_isEmpty) B.pre
  have hT : ∀ w ∈ TB, w.before _ s = true := fun w h => hts w (List.mem_cons_of_mem _ h)
  have hown : s.vm.findClass "ColonMachine$Calls" = some m.cls := findClass_of_methodNamed B.named
  have hlocks := B.notSynchronized
  subst hsz
  have hD := hD0.self (sz := s.heap.size)
  generalize hAe : va_A [(h, .inr (0, [.ref ao, .ref ap, .ref ar, .ref ad, .int n]))] s.heap.size = A at hD hE ⊢
  have hA : ∀ q : Nat, s.heap.size ≤ q → A q := fun q h => by rw [← hAe]; exact Or.inr h
  have hS : va_S A s.heap s.heap [] := va_S.rf
  have hl := lv_entry [.ref h] (n := 1) (Nat.le_of_ble_eq_true rfl)
  rw [lg_entry_eq]
  generalize (lg_sl [.ref h] ++ List.replicate (1 - (lg_sl [.ref h]).length) Slot.unset).toArray = ls at hl ⊢
  have hl : lv_has ls 1 [(0, .ref h)] := hl
  have hF := F_Calls_isEmpty_e n
  refine lv_aload_n hx hb d_Calls_isEmpty_0 rfl (lv_at hl 0 rfl) ?_
  refine va_get (D := D) (v := .int n) (C := "ColonMachine$Calls") (T := T_Calls) (N := 5) hx hb hT i_Calls hown hK hP 0 rfl rfl 4 (by decide) (hT _ fl_Calls_24) (fun _ h9 => h9) rfl d_Calls_isEmpty_1 ?_
  refine lv_if_ne (tgt := 11) hx hb d_Calls_isEmpty_4 (by decide) (fun c1 => ?_) (fun c1 => ?_)
  · have hF := hF.trans (if_neg c1)
    refine lv_iconst (v := 0) hx hb d_Calls_isEmpty_11 (by decide) ?_
    exact W.zret (v := 0) hx hb hr rfl (fun t ht hW => ⟨⟨_, (), rfl, ⟨hF.symm, ⟨(by have := ti_lo n; have := ti_hi n; have t0 : Int32.toInt 0 = 0 := rfl; have t1 : Int32.toInt 1 = 1 := rfl; (try simp only [true_or, or_true, true_and, and_true, z_tn, CellsOk, CallsOk, TextOk, MemOk, OutOk, Int32.lt_iff_toInt_lt, Int32.le_iff_toInt_le, ← Int32.toInt_inj, Int32.toInt_add, Int32.toInt_sub, Int32.toInt_mul, Int32.toInt_neg, zbm, zbm', t0, t1] at c1 hi ⊢) <;> omega), (Or.inl rfl)⟩⟩, ⟨by rw [ht]; exact hP, va_K.moved hW.alike hK, hD⟩⟩, hS.F ht⟩) hS.2.2 d_Calls_isEmpty_12
  · have hF := hF.trans (if_pos c1)
    refine lv_iconst (v := 1) hx hb d_Calls_isEmpty_7 (by decide) ?_
    refine lv_goto (tgt := 12) hx hb d_Calls_isEmpty_8 (by decide) ?_
    exact W.zret (v := 1) hx hb hr rfl (fun t ht hW => ⟨⟨_, (), rfl, ⟨hF.symm, ⟨(by have := ti_lo n; have := ti_hi n; have t1 : Int32.toInt 1 = 1 := rfl; have t0 : Int32.toInt 0 = 0 := rfl; (try simp only [true_or, or_true, true_and, and_true, z_tn, CellsOk, CallsOk, TextOk, MemOk, OutOk, Int32.lt_iff_toInt_lt, Int32.le_iff_toInt_le, ← Int32.toInt_inj, Int32.toInt_add, Int32.toInt_sub, Int32.toInt_mul, Int32.toInt_neg, zbm, zbm', t1, t0] at c1 hi ⊢) <;> omega), (Or.inr rfl)⟩⟩, ⟨by rw [ht]; exact hP, va_K.moved hW.alike hK, hD⟩⟩, hS.F ht⟩) hS.2.2 d_Calls_isEmpty_12
/-- the picture of ColonMachine$Calls.isFull -/
def F_Calls_isFull (n : Int32) : Int32 := if n < 40 then 0 else 1
theorem F_Calls_isFull_e (n : Int32) : F_Calls_isFull n = if n < 40 then 0 else 1 := rfl
set_option maxHeartbeats 4000000 in
set_option maxRecDepth 100000 in
theorem c_Calls_isFull (l : Launch) (D : va_G) (cI cJ cZ cW cT : ClassId) (sz : Nat) (h : Nat) (ao : Nat) (ap : Nat) (ar : Nat) (ad : Nat) (n : Int32) (hi : CallsOk n) : Met l y_Calls_isFull w_Calls_isFull ({ frames := 0, cells := 0, slots := 0, locals := 0 }) (va_Pc [.ref h] (zP D classes (TY cI cJ cZ cW cT) [(h, .inr (0, [.ref ao, .ref ap, .ref ar, .ref ad, .int n]))] sz)) (va_Qi (fun (r : Int32) (_ : Unit) => r = F_Calls_isFull n ∧ ((r = 0 ∨ r = 1))) (fun _ => zB D classes (TY cI cJ cZ cW cT) (va_A [(h, .inr (0, [.ref ao, .ref ap, .ref ar, .ref ad, .int n]))] sz) [(h, .inr (0, [.ref ao, .ref ap, .ref ar, .ref ad, .int n]))]) (va_A [(h, .inr (0, [.ref ao, .ref ap, .ref ar, .ref ad, .int n]))] sz)) 0 0 (va_A [(h, .inr (0, [.ref ao, .ref ap, .ref ar, .ref ad, .int n]))] sz) := by
  refine Met.ofW (cc := b_Calls_isFull) (maxL := 1) (ret := (some .boolean)) (by decide) rfl ?_
  intro p e s m args below meth c s₁ B hml hv
  obtain ⟨rfl, hsz, hP, hK, hD0, hE⟩ := hv
  have hx := B.exec
  have hb := B.bytes
  have hr := B.returns
  have hts := atoms_spec (ws := w_Calls_isFull) B.pre
  have hT : ∀ w ∈ TB, w.before _ s = true := fun w h => hts w (List.mem_cons_of_mem _ h)
  have hown : s.vm.findClass "ColonMachine$Calls" = some m.cls := findClass_of_methodNamed B.named
  have hlocks := B.notSynchronized
  subst hsz
  have hD := hD0.self (sz := s.heap.size)
  generalize hAe : va_A [(h, .inr (0, [.ref ao, .ref ap, .ref ar, .ref ad, .int n]))] s.heap.size = A at hD hE ⊢
  have hA : ∀ q : Nat, s.heap.size ≤ q → A q := fun q h => by rw [← hAe]; exact Or.inr h
  have hS : va_S A s.heap s.heap [] := va_S.rf
  have hl := lv_entry [.ref h] (n := 1) (Nat.le_of_ble_eq_true rfl)
  rw [lg_entry_eq]
  generalize (lg_sl [.ref h] ++ List.replicate (1 - (lg_sl [.ref h]).length) Slot.unset).toArray = ls at hl ⊢
  have hl : lv_has ls 1 [(0, .ref h)] := hl
  have hF := F_Calls_isFull_e n
  refine lv_aload_n hx hb d_Calls_isFull_0 rfl (lv_at hl 0 rfl) ?_
  refine va_get (D := D) (v := .int n) (C := "ColonMachine$Calls") (T := T_Calls) (N := 5) hx hb hT i_Calls hown hK hP 0 rfl rfl 4 (by decide) (hT _ fl_Calls_24) (fun _ h9 => h9) rfl d_Calls_isFull_1 ?_
  refine lv_bipush (v := 40) hx hb d_Calls_isFull_4 (by decide) ?_
  refine lv_icmp_lt (tgt := 13) hx hb d_Calls_isFull_6 (by decide) (fun c1 => ?_) (fun c1 => ?_)
  · have hF := hF.trans (if_pos c1)
    refine lv_iconst (v := 0) hx hb d_Calls_isFull_13 (by decide) ?_
    exact W.zret (v := 0) hx hb hr rfl (fun t ht hW => ⟨⟨_, (), rfl, ⟨hF.symm, (Or.inl rfl)⟩, ⟨by rw [ht]; exact hP, va_K.moved hW.alike hK, hD⟩⟩, hS.F ht⟩) hS.2.2 d_Calls_isFull_14
  · have hF := hF.trans (if_neg c1)
    refine lv_iconst (v := 1) hx hb d_Calls_isFull_9 (by decide) ?_
    refine lv_goto (tgt := 14) hx hb d_Calls_isFull_10 (by decide) ?_
    exact W.zret (v := 1) hx hb hr rfl (fun t ht hW => ⟨⟨_, (), rfl, ⟨hF.symm, (Or.inr rfl)⟩, ⟨by rw [ht]; exact hP, va_K.moved hW.alike hK, hD⟩⟩, hS.F ht⟩) hS.2.2 d_Calls_isFull_14
/-- the picture of ColonMachine$Calls.add -/
def F_Calls_add (n : Int32) (fo : Nat → Int32) (fp : Nat → Int32) (fr : Nat → Int32) (fd : Nat → Int32) (x1 : Int32) (x2 : Int32) (x3 : Int32) (x4 : Int32) : Int32 × (Nat → Int32) × (Nat → Int32) × (Nat → Int32) × (Nat → Int32) := if 40 ≤ n then (n, fo, fp, fr, fd) else (n + 1, upd fo n.toNatClampNeg x1, upd fp n.toNatClampNeg x2, upd fr n.toNatClampNeg x3, upd fd n.toNatClampNeg x4)
theorem F_Calls_add_e (n : Int32) (fo : Nat → Int32) (fp : Nat → Int32) (fr : Nat → Int32) (fd : Nat → Int32) (x1 : Int32) (x2 : Int32) (x3 : Int32) (x4 : Int32) : F_Calls_add n fo fp fr fd x1 x2 x3 x4 = if 40 ≤ n then (n, fo, fp, fr, fd) else (n + 1, upd fo n.toNatClampNeg x1, upd fp n.toNatClampNeg x2, upd fr n.toNatClampNeg x3, upd fd n.toNatClampNeg x4) := rfl
set_option maxHeartbeats 4000000 in
set_option maxRecDepth 100000 in
theorem c_Calls_add (l : Launch) (D : va_G) (cI cJ cZ cW cT : ClassId) (sz : Nat) (h : Nat) (ao : Nat) (ap : Nat) (ar : Nat) (ad : Nat) (n : Int32) (fo : Nat → Int32) (fp : Nat → Int32) (fr : Nat → Int32) (fd : Nat → Int32) (x1 : Int32) (x2 : Int32) (x3 : Int32) (x4 : Int32) (hi : CallsOk n) : Met l y_Calls_add w_Calls_add ({ frames := 0, cells := 0, slots := 0, locals := 0 }) (va_Pc [.ref h, .int x1, .int x2, .int x3, .int x4] (zP D classes (TY cI cJ cZ cW cT) [(h, .inr (0, [.ref ao, .ref ap, .ref ar, .ref ad, .int n])), (ao, .inl (cI, 40, .inl fo)), (ap, .inl (cI, 40, .inl fp)), (ar, .inl (cI, 40, .inl fr)), (ad, .inl (cI, 40, .inl fd))] sz)) (va_Qv (fun u : Int32 × (Nat → Int32) × (Nat → Int32) × (Nat → Int32) × (Nat → Int32) => u = F_Calls_add n fo fp fr fd x1 x2 x3 x4 ∧ ((CallsOk u.1))) (fun u => zB D classes (TY cI cJ cZ cW cT) (va_A [(h, .inr (0, [.ref ao, .ref ap, .ref ar, .ref ad, .int n])), (ao, .inl (cI, 40, .inl fo)), (ap, .inl (cI, 40, .inl fp)), (ar, .inl (cI, 40, .inl fr)), (ad, .inl (cI, 40, .inl fd))] sz) [(h, .inr (0, [.ref ao, .ref ap, .ref ar, .ref ad, .int u.1])), (ao, .inl (cI, 40, .inl u.2.1)), (ap, .inl (cI, 40, .inl u.2.2.1)), (ar, .inl (cI, 40, .inl u.2.2.2.1)), (ad, .inl (cI, 40, .inl u.2.2.2.2))]) (va_A [(h, .inr (0, [.ref ao, .ref ap, .ref ar, .ref ad, .int n])), (ao, .inl (cI, 40, .inl fo)), (ap, .inl (cI, 40, .inl fp)), (ar, .inl (cI, 40, .inl fr)), (ad, .inl (cI, 40, .inl fd))] sz)) 0 0 (va_A [(h, .inr (0, [.ref ao, .ref ap, .ref ar, .ref ad, .int n])), (ao, .inl (cI, 40, .inl fo)), (ap, .inl (cI, 40, .inl fp)), (ar, .inl (cI, 40, .inl fr)), (ad, .inl (cI, 40, .inl fd))] sz) := by
  refine Met.ofW (cc := b_Calls_add) (maxL := 5) (ret := none) (by decide) rfl ?_
  intro p e s m args below meth c s₁ B hml hv
  obtain ⟨rfl, hsz, hP, hK, hD0, hE⟩ := hv
  have hx := B.exec
  have hb := B.bytes
  have hr := B.returns
  have hts := atoms_spec (ws := w_Calls_add) B.pre
  have hT : ∀ w ∈ TB, w.before _ s = true := fun w h => hts w (List.mem_cons_of_mem _ h)
  have hown : s.vm.findClass "ColonMachine$Calls" = some m.cls := findClass_of_methodNamed B.named
  have hlocks := B.notSynchronized
  subst hsz
  have hD := hD0.self (sz := s.heap.size)
  generalize hAe : va_A [(h, .inr (0, [.ref ao, .ref ap, .ref ar, .ref ad, .int n])), (ao, .inl (cI, 40, .inl fo)), (ap, .inl (cI, 40, .inl fp)), (ar, .inl (cI, 40, .inl fr)), (ad, .inl (cI, 40, .inl fd))] s.heap.size = A at hD hE ⊢
  have hA : ∀ q : Nat, s.heap.size ≤ q → A q := fun q h => by rw [← hAe]; exact Or.inr h
  have hS : va_S A s.heap s.heap [] := va_S.rf
  have hl := lv_entry [.ref h, .int x1, .int x2, .int x3, .int x4] (n := 5) (Nat.le_of_ble_eq_true rfl)
  rw [lg_entry_eq]
  generalize (lg_sl [.ref h, .int x1, .int x2, .int x3, .int x4] ++ List.replicate (5 - (lg_sl [.ref h, .int x1, .int x2, .int x3, .int x4]).length) Slot.unset).toArray = ls at hl ⊢
  have hl : lv_has ls 5 [(0, .ref h), (1, .int x1), (2, .int x2), (3, .int x3), (4, .int x4)] := hl
  have hF := F_Calls_add_e n fo fp fr fd x1 x2 x3 x4
  refine lv_aload_n hx hb d_Calls_add_0 rfl (lv_at hl 0 rfl) ?_
  refine va_get (D := D) (v := .int n) (C := "ColonMachine$Calls") (T := T_Calls) (N := 5) hx hb hT i_Calls hown hK hP 0 rfl rfl 4 (by decide) (hT _ fl_Calls_24) (fun _ h9 => h9) rfl d_Calls_add_1 ?_
  refine lv_bipush (v := 40) hx hb d_Calls_add_4 (by decide) ?_
  refine lv_icmp_ge (tgt := 60) hx hb d_Calls_add_6 (by decide) (fun c1 => ?_) (fun c1 => ?_)
  · have hF := hF.trans (if_pos c1)
    exact W.vret hx hb hr (fun t ht hW => ⟨⟨_, rfl, ⟨hF.symm, hi⟩, ⟨by rw [ht]; exact hP, va_K.moved hW.alike hK, hD⟩⟩, hS.F ht⟩) hS.2.2 d_Calls_add_60
  · have hF := hF.trans (if_neg c1)
    refine lv_aload_n hx hb d_Calls_add_9 rfl (lv_at hl 0 rfl) ?_
    refine va_get (D := D) (v := .ref ao) (C := "ColonMachine$Calls") (T := T_Calls) (N := 5) hx hb hT i_Calls hown hK hP 0 rfl rfl 0 (by decide) (hT _ fl_Calls_11) (fun _ h9 => h9) rfl d_Calls_add_10 ?_
    refine lv_aload_n hx hb d_Calls_add_13 rfl (lv_at hl 0 rfl) ?_
    refine va_get (D := D) (v := .int n) (C := "ColonMachine$Calls") (T := T_Calls) (N := 5) hx hb hT i_Calls hown hK hP 0 rfl rfl 4 (by decide) (hT _ fl_Calls_24) (fun _ h9 => h9) rfl d_Calls_add_14 ?_
    refine lv_iload_n hx hb d_Calls_add_17 rfl (lv_at hl 1 rfl) ?_
    refine va_iast hx hb hK hP hD hS 1 0 rfl rfl (by have := ti_lo n; have := ti_hi n; have t40 : Int32.toInt 40 = 40 := rfl; rw [vp_in_iff]; (try simp only [true_or, or_true, true_and, and_true, z_tn, CellsOk, CallsOk, TextOk, MemOk, OutOk, Int32.lt_iff_toInt_lt, Int32.le_iff_toInt_le, ← Int32.toInt_inj, Int32.toInt_add, Int32.toInt_sub, Int32.toInt_mul, Int32.toInt_neg, zbm, zbm', t40] at c1 hi ⊢) <;> omega) d_Calls_add_18 (fun H locs hP hD hS => ?_)
    have hP : va_P D classes [(h, .inr (0, [.ref ao, .ref ap, .ref ar, .ref ad, .int n])), (ao, .inl (cI, 40, .inl (upd fo n.toNatClampNeg x1))), (ap, .inl (cI, 40, .inl fp)), (ar, .inl (cI, 40, .inl fr)), (ad, .inl (cI, 40, .inl fd))] H := hP
    have hD : va_D A [(h, .inr (0, [.ref ao, .ref ap, .ref ar, .ref ad, .int n])), (ao, .inl (cI, 40, .inl (upd fo n.toNatClampNeg x1))), (ap, .inl (cI, 40, .inl fp)), (ar, .inl (cI, 40, .inl fr)), (ad, .inl (cI, 40, .inl fd))] := hD
    refine lv_aload_n hx hb d_Calls_add_19 rfl (lv_at hl 0 rfl) ?_
    refine va_get (D := D) (v := .ref ap) (C := "ColonMachine$Calls") (T := T_Calls) (N := 5) hx hb hT i_Calls hown hK hP 0 rfl rfl 1 (by decide) (hT _ fl_Calls_15) (fun _ h9 => h9) rfl d_Calls_add_20 ?_
    refine lv_aload_n hx hb d_Calls_add_23 rfl (lv_at hl 0 rfl) ?_
    refine va_get (D := D) (v := .int n) (C := "ColonMachine$Calls") (T := T_Calls) (N := 5) hx hb hT i_Calls hown hK hP 0 rfl rfl 4 (by decide) (hT _ fl_Calls_24) (fun _ h9 => h9) rfl d_Calls_add_24 ?_
    refine lv_iload_n hx hb d_Calls_add_27 rfl (lv_at hl 2 rfl) ?_
    refine va_iast hx hb hK hP hD hS 2 0 rfl rfl (by have := ti_lo n; have := ti_hi n; have t40 : Int32.toInt 40 = 40 := rfl; rw [vp_in_iff]; (try simp only [true_or, or_true, true_and, and_true, z_tn, CellsOk, CallsOk, TextOk, MemOk, OutOk, Int32.lt_iff_toInt_lt, Int32.le_iff_toInt_le, ← Int32.toInt_inj, Int32.toInt_add, Int32.toInt_sub, Int32.toInt_mul, Int32.toInt_neg, zbm, zbm', t40] at c1 hi ⊢) <;> omega) d_Calls_add_28 (fun H locs hP hD hS => ?_)
    have hP : va_P D classes [(h, .inr (0, [.ref ao, .ref ap, .ref ar, .ref ad, .int n])), (ao, .inl (cI, 40, .inl (upd fo n.toNatClampNeg x1))), (ap, .inl (cI, 40, .inl (upd fp n.toNatClampNeg x2))), (ar, .inl (cI, 40, .inl fr)), (ad, .inl (cI, 40, .inl fd))] H := hP
    have hD : va_D A [(h, .inr (0, [.ref ao, .ref ap, .ref ar, .ref ad, .int n])), (ao, .inl (cI, 40, .inl (upd fo n.toNatClampNeg x1))), (ap, .inl (cI, 40, .inl (upd fp n.toNatClampNeg x2))), (ar, .inl (cI, 40, .inl fr)), (ad, .inl (cI, 40, .inl fd))] := hD
    refine lv_aload_n hx hb d_Calls_add_29 rfl (lv_at hl 0 rfl) ?_
    refine va_get (D := D) (v := .ref ar) (C := "ColonMachine$Calls") (T := T_Calls) (N := 5) hx hb hT i_Calls hown hK hP 0 rfl rfl 2 (by decide) (hT _ fl_Calls_18) (fun _ h9 => h9) rfl d_Calls_add_30 ?_
    refine lv_aload_n hx hb d_Calls_add_33 rfl (lv_at hl 0 rfl) ?_
    refine va_get (D := D) (v := .int n) (C := "ColonMachine$Calls") (T := T_Calls) (N := 5) hx hb hT i_Calls hown hK hP 0 rfl rfl 4 (by decide) (hT _ fl_Calls_24) (fun _ h9 => h9) rfl d_Calls_add_34 ?_
    refine lv_iload_n hx hb d_Calls_add_37 rfl (lv_at hl 3 rfl) ?_
    refine va_iast hx hb hK hP hD hS 3 0 rfl rfl (by have := ti_lo n; have := ti_hi n; have t40 : Int32.toInt 40 = 40 := rfl; rw [vp_in_iff]; (try simp only [true_or, or_true, true_and, and_true, z_tn, CellsOk, CallsOk, TextOk, MemOk, OutOk, Int32.lt_iff_toInt_lt, Int32.le_iff_toInt_le, ← Int32.toInt_inj, Int32.toInt_add, Int32.toInt_sub, Int32.toInt_mul, Int32.toInt_neg, zbm, zbm', t40] at c1 hi ⊢) <;> omega) d_Calls_add_38 (fun H locs hP hD hS => ?_)
    have hP : va_P D classes [(h, .inr (0, [.ref ao, .ref ap, .ref ar, .ref ad, .int n])), (ao, .inl (cI, 40, .inl (upd fo n.toNatClampNeg x1))), (ap, .inl (cI, 40, .inl (upd fp n.toNatClampNeg x2))), (ar, .inl (cI, 40, .inl (upd fr n.toNatClampNeg x3))), (ad, .inl (cI, 40, .inl fd))] H := hP
    have hD : va_D A [(h, .inr (0, [.ref ao, .ref ap, .ref ar, .ref ad, .int n])), (ao, .inl (cI, 40, .inl (upd fo n.toNatClampNeg x1))), (ap, .inl (cI, 40, .inl (upd fp n.toNatClampNeg x2))), (ar, .inl (cI, 40, .inl (upd fr n.toNatClampNeg x3))), (ad, .inl (cI, 40, .inl fd))] := hD
    refine lv_aload_n hx hb d_Calls_add_39 rfl (lv_at hl 0 rfl) ?_
    refine va_get (D := D) (v := .ref ad) (C := "ColonMachine$Calls") (T := T_Calls) (N := 5) hx hb hT i_Calls hown hK hP 0 rfl rfl 3 (by decide) (hT _ fl_Calls_21) (fun _ h9 => h9) rfl d_Calls_add_40 ?_
    refine lv_aload_n hx hb d_Calls_add_43 rfl (lv_at hl 0 rfl) ?_
    refine va_get (D := D) (v := .int n) (C := "ColonMachine$Calls") (T := T_Calls) (N := 5) hx hb hT i_Calls hown hK hP 0 rfl rfl 4 (by decide) (hT _ fl_Calls_24) (fun _ h9 => h9) rfl d_Calls_add_44 ?_
    refine lv_iload hx hb d_Calls_add_47 (lv_at hl 4 rfl) ?_
    refine va_iast hx hb hK hP hD hS 4 0 rfl rfl (by have := ti_lo n; have := ti_hi n; have t40 : Int32.toInt 40 = 40 := rfl; rw [vp_in_iff]; (try simp only [true_or, or_true, true_and, and_true, z_tn, CellsOk, CallsOk, TextOk, MemOk, OutOk, Int32.lt_iff_toInt_lt, Int32.le_iff_toInt_le, ← Int32.toInt_inj, Int32.toInt_add, Int32.toInt_sub, Int32.toInt_mul, Int32.toInt_neg, zbm, zbm', t40] at c1 hi ⊢) <;> omega) d_Calls_add_49 (fun H locs hP hD hS => ?_)
    have hP : va_P D classes [(h, .inr (0, [.ref ao, .ref ap, .ref ar, .ref ad, .int n])), (ao, .inl (cI, 40, .inl (upd fo n.toNatClampNeg x1))), (ap, .inl (cI, 40, .inl (upd fp n.toNatClampNeg x2))), (ar, .inl (cI, 40, .inl (upd fr n.toNatClampNeg x3))), (ad, .inl (cI, 40, .inl (upd fd n.toNatClampNeg x4)))] H := hP
    have hD : va_D A [(h, .inr (0, [.ref ao, .ref ap, .ref ar, .ref ad, .int n])), (ao, .inl (cI, 40, .inl (upd fo n.toNatClampNeg x1))), (ap, .inl (cI, 40, .inl (upd fp n.toNatClampNeg x2))), (ar, .inl (cI, 40, .inl (upd fr n.toNatClampNeg x3))), (ad, .inl (cI, 40, .inl (upd fd n.toNatClampNeg x4)))] := hD
    refine lv_aload_n hx hb d_Calls_add_50 rfl (lv_at hl 0 rfl) ?_
    refine lv_dup hx hb d_Calls_add_51 rfl ?_
    refine va_get (D := D) (v := .int n) (C := "ColonMachine$Calls") (T := T_Calls) (N := 5) hx hb hT i_Calls hown hK hP 0 rfl rfl 4 (by decide) (hT _ fl_Calls_24) (fun _ h9 => h9) rfl d_Calls_add_52 ?_
    refine lv_iconst (v := 1) hx hb d_Calls_add_55 (by decide) ?_
    refine lv_iadd hx hb d_Calls_add_56 ?_
    refine va_put (D := D) (v := .int (n + 1)) (ty := .int) (C := "ColonMachine$Calls") (T := T_Calls) (N := 5) hx hb hT i_Calls t_Calls tk_Calls n_Calls hown hK hP hD hS 0 rfl rfl 4 (by decide) (hT _ fl_Calls_24) (fun _ h9 => h9) rfl (by decide +kernel) rfl rfl (Nat.le_of_ble_eq_true rfl) d_Calls_add_57 (fun H locs hP hD hS => ?_)
    have hP : va_P D classes [(h, .inr (0, [.ref ao, .ref ap, .ref ar, .ref ad, .int (n + 1)])), (ao, .inl (cI, 40, .inl (upd fo n.toNatClampNeg x1))), (ap, .inl (cI, 40, .inl (upd fp n.toNatClampNeg x2))), (ar, .inl (cI, 40, .inl (upd fr n.toNatClampNeg x3))), (ad, .inl (cI, 40, .inl (upd fd n.toNatClampNeg x4)))] H := hP
    have hD : va_D A [(h, .inr (0, [.ref ao, .ref ap, .ref ar, .ref ad, .int (n + 1)])), (ao, .inl (cI, 40, .inl (upd fo n.toNatClampNeg x1))), (ap, .inl (cI, 40, .inl (upd fp n.toNatClampNeg x2))), (ar, .inl (cI, 40, .inl (upd fr n.toNatClampNeg x3))), (ad, .inl (cI, 40, .inl (upd fd n.toNatClampNeg x4)))] := hD
    exact W.vret hx hb hr (fun t ht hW => ⟨⟨_, rfl, ⟨hF.symm, (by have := ti_lo n; have := ti_hi n; have t1 : Int32.toInt 1 = 1 := rfl; have t40 : Int32.toInt 40 = 40 := rfl; (try simp only [true_or, or_true, true_and, and_true, z_tn, CellsOk, CallsOk, TextOk, MemOk, OutOk, Int32.lt_iff_toInt_lt, Int32.le_iff_toInt_le, ← Int32.toInt_inj, Int32.toInt_add, Int32.toInt_sub, Int32.toInt_mul, Int32.toInt_neg, zbm, zbm', t1, t40] at c1 hi ⊢) <;> omega)⟩, ⟨by rw [ht]; exact hP, va_K.moved hW.alike hK, hD⟩⟩, hS.F ht⟩) hS.2.2 d_Calls_add_60
/-- the picture of ColonMachine$Calls.begin -/
def F_Calls_begin (n : Int32) (fo : Nat → Int32) (fp : Nat → Int32) (fr : Nat → Int32) (fd : Nat → Int32) (x1 : Int32) (x2 : Int32) (x3 : Int32) : Int32 × (Nat → Int32) × (Nat → Int32) × (Nat → Int32) × (Nat → Int32) := bd (F_Calls_add n fo fp fr fd x1 x2 x3 0) (fun q1 => (q1.1, q1.2.1, q1.2.2.1, q1.2.2.2.1, q1.2.2.2.2))
theorem F_Calls_begin_e (n : Int32) (fo : Nat → Int32) (fp : Nat → Int32) (fr : Nat → Int32) (fd : Nat → Int32) (x1 : Int32) (x2 : Int32) (x3 : Int32) : F_Calls_begin n fo fp fr fd x1 x2 x3 = bd (F_Calls_add n fo fp fr fd x1 x2 x3 0) (fun q1 => (q1.1, q1.2.1, q1.2.2.1, q1.2.2.2.1, q1.2.2.2.2)) := rfl
set_option maxHeartbeats 4000000 in
set_option maxRecDepth 100000 in
theorem c_Calls_begin (l : Launch) (D : va_G) (cI cJ cZ cW cT : ClassId) (sz : Nat) (h : Nat) (ao : Nat) (ap : Nat) (ar : Nat) (ad : Nat) (n : Int32) (fo : Nat → Int32) (fp : Nat → Int32) (fr : Nat → Int32) (fd : Nat → Int32) (x1 : Int32) (x2 : Int32) (x3 : Int32) (hi : CallsOk n) : Met l y_Calls_begin w_Calls_begin ({ frames := 1, cells := 0, slots := 0, locals := 24 }) (va_Pc [.ref h, .int x1, .int x2, .int x3] (zP D classes (TY cI cJ cZ cW cT) [(h, .inr (0, [.ref ao, .ref ap, .ref ar, .ref ad, .int n])), (ao, .inl (cI, 40, .inl fo)), (ap, .inl (cI, 40, .inl fp)), (ar, .inl (cI, 40, .inl fr)), (ad, .inl (cI, 40, .inl fd))] sz)) (va_Qv (fun u : Int32 × (Nat → Int32) × (Nat → Int32) × (Nat → Int32) × (Nat → Int32) => u = F_Calls_begin n fo fp fr fd x1 x2 x3 ∧ ((CallsOk u.1))) (fun u => zB D classes (TY cI cJ cZ cW cT) (va_A [(h, .inr (0, [.ref ao, .ref ap, .ref ar, .ref ad, .int n])), (ao, .inl (cI, 40, .inl fo)), (ap, .inl (cI, 40, .inl fp)), (ar, .inl (cI, 40, .inl fr)), (ad, .inl (cI, 40, .inl fd))] sz) [(h, .inr (0, [.ref ao, .ref ap, .ref ar, .ref ad, .int u.1])), (ao, .inl (cI, 40, .inl u.2.1)), (ap, .inl (cI, 40, .inl u.2.2.1)), (ar, .inl (cI, 40, .inl u.2.2.2.1)), (ad, .inl (cI, 40, .inl u.2.2.2.2))]) (va_A [(h, .inr (0, [.ref ao, .ref ap, .ref ar, .ref ad, .int n])), (ao, .inl (cI, 40, .inl fo)), (ap, .inl (cI, 40, .inl fp)), (ar, .inl (cI, 40, .inl fr)), (ad, .inl (cI, 40, .inl fd))] sz)) 0 0 (va_A [(h, .inr (0, [.ref ao, .ref ap, .ref ar, .ref ad, .int n])), (ao, .inl (cI, 40, .inl fo)), (ap, .inl (cI, 40, .inl fp)), (ar, .inl (cI, 40, .inl fr)), (ad, .inl (cI, 40, .inl fd))] sz) := by
  refine Met.ofW (cc := b_Calls_begin) (maxL := 4) (ret := none) (by decide) rfl ?_
  intro p e s m args below meth c s₁ B hml hv
  obtain ⟨rfl, hsz, hP, hK, hD0, hE⟩ := hv
  have hx := B.exec
  have hb := B.bytes
  have hr := B.returns
  have hts := atoms_spec (ws := w_Calls_begin) B.pre
  have hT : ∀ w ∈ TB, w.before _ s = true := fun w h => hts w (List.mem_cons_of_mem _ h)
  have hown : s.vm.findClass "ColonMachine$Calls" = some m.cls := findClass_of_methodNamed B.named
  have hlocks := B.notSynchronized
  subst hsz
  have hD := hD0.self (sz := s.heap.size)
  generalize hAe : va_A [(h, .inr (0, [.ref ao, .ref ap, .ref ar, .ref ad, .int n])), (ao, .inl (cI, 40, .inl fo)), (ap, .inl (cI, 40, .inl fp)), (ar, .inl (cI, 40, .inl fr)), (ad, .inl (cI, 40, .inl fd))] s.heap.size = A at hD hE ⊢
  have hA : ∀ q : Nat, s.heap.size ≤ q → A q := fun q h => by rw [← hAe]; exact Or.inr h
  have hS : va_S A s.heap s.heap [] := va_S.rf
  have hl := lv_entry [.ref h, .int x1, .int x2, .int x3] (n := 4) (Nat.le_of_ble_eq_true rfl)
  rw [lg_entry_eq]
  generalize (lg_sl [.ref h, .int x1, .int x2, .int x3] ++ List.replicate (4 - (lg_sl [.ref h, .int x1, .int x2, .int x3]).length) Slot.unset).toArray = ls at hl ⊢
  have hl : lv_has ls 4 [(0, .ref h), (1, .int x1), (2, .int x2), (3, .int x3)] := hl
  have hF := F_Calls_begin_e n fo fp fr fd x1 x2 x3
  refine lv_aload_n hx hb d_Calls_begin_0 rfl (lv_at hl 0 rfl) ?_
  refine lv_iload_n hx hb d_Calls_begin_1 rfl (lv_at hl 1 rfl) ?_
  refine lv_iload_n hx hb d_Calls_begin_2 rfl (lv_at hl 2 rfl) ?_
  refine lv_iload_n hx hb d_Calls_begin_3 rfl (lv_at hl 3 rfl) ?_
  refine lv_iconst (v := 0) hx hb d_Calls_begin_4 (by decide) ?_
  refine kN_sv (wr := []) (fun u : Int32 × (Nat → Int32) × (Nat → Int32) × (Nat → Int32) × (Nat → Int32) => [(h, .inr (0, [.ref ao, .ref ap, .ref ar, .ref ad, .int u.1])), (ao, .inl (cI, 40, .inl u.2.1)), (ap, .inl (cI, 40, .inl u.2.2.1)), (ar, .inl (cI, 40, .inl u.2.2.2.1)), (ad, .inl (cI, 40, .inl u.2.2.2.2))]) (zV (wc := [(h, .inr (0, [.ref ao, .ref ap, .ref ar, .ref ad, .int n])), (ao, .inl (cI, 40, .inl fo)), (ap, .inl (cI, 40, .inl fp)), (ar, .inl (cI, 40, .inl fr)), (ad, .inl (cI, 40, .inl fd))]) (As := [.int x1, .int x2, .int x3, .int 0]) (rest := []) (st0 := [.int 0, .int x3, .int x2, .int x1, .ref h]) ⟨hx, hb, hml, hown, hT⟩ (c_Calls_add l D cI cJ cZ cW cT s.heap.size h ao ap ar ad n fo fp fr fd x1 x2 x3 0 hi) (cwV 4 hT (tbV ml_Calls_28 im_Calls_add se_Calls_add in_Calls co_Calls_add) rfl rfl rfl v_Calls_add ⟨Nat.le_of_ble_eq_true rfl, Nat.le_of_ble_eq_true rfl⟩) hK hE hP hD hS hA [0, 1, 2, 3, 4] rfl rfl 0 rfl rfl rfl hl.1 rfl (Nat.le_of_ble_eq_true rfl) d_Calls_begin_5 ⟨Nat.le_of_ble_eq_true rfl, Nat.le_of_ble_eq_true rfl⟩) hP hD hS hA [0, 1, 2, 3, 4] [] rfl rfl rfl (by decide) [0, 1, 2, 3, 4] rfl (fun u => rfl) (fun q1 H locs e1 k1 hP hD hS => ?_)
  have hP : va_P D classes [(h, .inr (0, [.ref ao, .ref ap, .ref ar, .ref ad, .int q1.1])), (ao, .inl (cI, 40, .inl q1.2.1)), (ap, .inl (cI, 40, .inl q1.2.2.1)), (ar, .inl (cI, 40, .inl q1.2.2.2.1)), (ad, .inl (cI, 40, .inl q1.2.2.2.2))] H := hP
  have hD : va_D A [(h, .inr (0, [.ref ao, .ref ap, .ref ar, .ref ad, .int q1.1])), (ao, .inl (cI, 40, .inl q1.2.1)), (ap, .inl (cI, 40, .inl q1.2.2.1)), (ar, .inl (cI, 40, .inl q1.2.2.2.1)), (ad, .inl (cI, 40, .inl q1.2.2.2.2))] := hD
  have hF := hF.trans (bd_e e1)
  exact W.vret hx hb hr (fun t ht hW => ⟨⟨_, rfl, ⟨hF.symm, k1⟩, ⟨by rw [ht]; exact hP, va_K.moved hW.alike hK, hD⟩⟩, hS.F ht⟩) hS.2.2 d_Calls_begin_8
/-- the picture of ColonMachine$Calls.beginCatch -/
def F_Calls_beginCatch (n : Int32) (fo : Nat → Int32) (fp : Nat → Int32) (fr : Nat → Int32) (fd : Nat → Int32) (x1 : Int32) (x2 : Int32) : Int32 × (Nat → Int32) × (Nat → Int32) × (Nat → Int32) × (Nat → Int32) := bd (F_Calls_add n fo fp fr fd (-1) 0 x1 x2) (fun q1 => (q1.1, q1.2.1, q1.2.2.1, q1.2.2.2.1, q1.2.2.2.2))
theorem F_Calls_beginCatch_e (n : Int32) (fo : Nat → Int32) (fp : Nat → Int32) (fr : Nat → Int32) (fd : Nat → Int32) (x1 : Int32) (x2 : Int32) : F_Calls_beginCatch n fo fp fr fd x1 x2 = bd (F_Calls_add n fo fp fr fd (-1) 0 x1 x2) (fun q1 => (q1.1, q1.2.1, q1.2.2.1, q1.2.2.2.1, q1.2.2.2.2)) := rfl
set_option maxHeartbeats 4000000 in
set_option maxRecDepth 100000 in
theorem c_Calls_beginCatch (l : Launch) (D : va_G) (cI cJ cZ cW cT : ClassId) (sz : Nat) (h : Nat) (ao : Nat) (ap : Nat) (ar : Nat) (ad : Nat) (n : Int32) (fo : Nat → Int32) (fp : Nat → Int32) (fr : Nat → Int32) (fd : Nat → Int32) (x1 : Int32) (x2 : Int32) (hi : CallsOk n) : Met l y_Calls_beginCatch w_Calls_beginCatch ({ frames := 1, cells := 0, slots := 0, locals := 24 }) (va_Pc [.ref h, .int x1, .int x2] (zP D classes (TY cI cJ cZ cW cT) [(h, .inr (0, [.ref ao, .ref ap, .ref ar, .ref ad, .int n])), (ao, .inl (cI, 40, .inl fo)), (ap, .inl (cI, 40, .inl fp)), (ar, .inl (cI, 40, .inl fr)), (ad, .inl (cI, 40, .inl fd))] sz)) (va_Qv (fun u : Int32 × (Nat → Int32) × (Nat → Int32) × (Nat → Int32) × (Nat → Int32) => u = F_Calls_beginCatch n fo fp fr fd x1 x2 ∧ ((CallsOk u.1))) (fun u => zB D classes (TY cI cJ cZ cW cT) (va_A [(h, .inr (0, [.ref ao, .ref ap, .ref ar, .ref ad, .int n])), (ao, .inl (cI, 40, .inl fo)), (ap, .inl (cI, 40, .inl fp)), (ar, .inl (cI, 40, .inl fr)), (ad, .inl (cI, 40, .inl fd))] sz) [(h, .inr (0, [.ref ao, .ref ap, .ref ar, .ref ad, .int u.1])), (ao, .inl (cI, 40, .inl u.2.1)), (ap, .inl (cI, 40, .inl u.2.2.1)), (ar, .inl (cI, 40, .inl u.2.2.2.1)), (ad, .inl (cI, 40, .inl u.2.2.2.2))]) (va_A [(h, .inr (0, [.ref ao, .ref ap, .ref ar, .ref ad, .int n])), (ao, .inl (cI, 40, .inl fo)), (ap, .inl (cI, 40, .inl fp)), (ar, .inl (cI, 40, .inl fr)), (ad, .inl (cI, 40, .inl fd))] sz)) 0 0 (va_A [(h, .inr (0, [.ref ao, .ref ap, .ref ar, .ref ad, .int n])), (ao, .inl (cI, 40, .inl fo)), (ap, .inl (cI, 40, .inl fp)), (ar, .inl (cI, 40, .inl fr)), (ad, .inl (cI, 40, .inl fd))] sz) := by
  refine Met.ofW (cc := b_Calls_beginCatch) (maxL := 3) (ret := none) (by decide) rfl ?_
  intro p e s m args below meth c s₁ B hml hv
  obtain ⟨rfl, hsz, hP, hK, hD0, hE⟩ := hv
  have hx := B.exec
  have hb := B.bytes
  have hr := B.returns
  have hts := atoms_spec (ws := w_Calls_beginCatch) B.pre
  have hT : ∀ w ∈ TB, w.before _ s = true := fun w h => hts w (List.mem_cons_of_mem _ h)
  have hown : s.vm.findClass "ColonMachine$Calls" = some m.cls := findClass_of_methodNamed B.named
  have hlocks := B.notSynchronized
  subst hsz
  have hD := hD0.self (sz := s.heap.size)
  generalize hAe : va_A [(h, .inr (0, [.ref ao, .ref ap, .ref ar, .ref ad, .int n])), (ao, .inl (cI, 40, .inl fo)), (ap, .inl (cI, 40, .inl fp)), (ar, .inl (cI, 40, .inl fr)), (ad, .inl (cI, 40, .inl fd))] s.heap.size = A at hD hE ⊢
  have hA : ∀ q : Nat, s.heap.size ≤ q → A q := fun q h => by rw [← hAe]; exact Or.inr h
  have hS : va_S A s.heap s.heap [] := va_S.rf
  have hl := lv_entry [.ref h, .int x1, .int x2] (n := 3) (Nat.le_of_ble_eq_true rfl)
  rw [lg_entry_eq]
  generalize (lg_sl [.ref h, .int x1, .int x2] ++ List.replicate (3 - (lg_sl [.ref h, .int x1, .int x2]).length) Slot.unset).toArray = ls at hl ⊢
  have hl : lv_has ls 3 [(0, .ref h), (1, .int x1), (2, .int x2)] := hl
  have hF := F_Calls_beginCatch_e n fo fp fr fd x1 x2
  refine lv_aload_n hx hb d_Calls_beginCatch_0 rfl (lv_at hl 0 rfl) ?_
  refine lv_iconst (v := (-1)) hx hb d_Calls_beginCatch_1 (by decide) ?_
  refine lv_iconst (v := 0) hx hb d_Calls_beginCatch_2 (by decide) ?_
  refine lv_iload_n hx hb d_Calls_beginCatch_3 rfl (lv_at hl 1 rfl) ?_
  refine lv_iload_n hx hb d_Calls_beginCatch_4 rfl (lv_at hl 2 rfl) ?_
  refine kN_sv (wr := []) (fun u : Int32 × (Nat → Int32) × (Nat → Int32) × (Nat → Int32) × (Nat → Int32) => [(h, .inr (0, [.ref ao, .ref ap, .ref ar, .ref ad, .int u.1])), (ao, .inl (cI, 40, .inl u.2.1)), (ap, .inl (cI, 40, .inl u.2.2.1)), (ar, .inl (cI, 40, .inl u.2.2.2.1)), (ad, .inl (cI, 40, .inl u.2.2.2.2))]) (zV (wc := [(h, .inr (0, [.ref ao, .ref ap, .ref ar, .ref ad, .int n])), (ao, .inl (cI, 40, .inl fo)), (ap, .inl (cI, 40, .inl fp)), (ar, .inl (cI, 40, .inl fr)), (ad, .inl (cI, 40, .inl fd))]) (As := [.int (-1), .int 0, .int x1, .int x2]) (rest := []) (st0 := [.int x2, .int x1, .int 0, .int (-1), .ref h]) ⟨hx, hb, hml, hown, hT⟩ (c_Calls_add l D cI cJ cZ cW cT s.heap.size h ao ap ar ad n fo fp fr fd (-1) 0 x1 x2 hi) (cwV 4 hT (tbV ml_Calls_28 im_Calls_add se_Calls_add in_Calls co_Calls_add) rfl rfl rfl v_Calls_add ⟨Nat.le_of_ble_eq_true rfl, Nat.le_of_ble_eq_true rfl⟩) hK hE hP hD hS hA [0, 1, 2, 3, 4] rfl rfl 0 rfl rfl rfl hl.1 rfl (Nat.le_of_ble_eq_true rfl) d_Calls_beginCatch_5 ⟨Nat.le_of_ble_eq_true rfl, Nat.le_of_ble_eq_true rfl⟩) hP hD hS hA [0, 1, 2, 3, 4] [] rfl rfl rfl (by decide) [0, 1, 2, 3, 4] rfl (fun u => rfl) (fun q1 H locs e1 k1 hP hD hS => ?_)
  have hP : va_P D classes [(h, .inr (0, [.ref ao, .ref ap, .ref ar, .ref ad, .int q1.1])), (ao, .inl (cI, 40, .inl q1.2.1)), (ap, .inl (cI, 40, .inl q1.2.2.1)), (ar, .inl (cI, 40, .inl q1.2.2.2.1)), (ad, .inl (cI, 40, .inl q1.2.2.2.2))] H := hP
  have hD : va_D A [(h, .inr (0, [.ref ao, .ref ap, .ref ar, .ref ad, .int q1.1])), (ao, .inl (cI, 40, .inl q1.2.1)), (ap, .inl (cI, 40, .inl q1.2.2.1)), (ar, .inl (cI, 40, .inl q1.2.2.2.1)), (ad, .inl (cI, 40, .inl q1.2.2.2.2))] := hD
  have hF := hF.trans (bd_e e1)
  exact W.vret hx hb hr (fun t ht hW => ⟨⟨_, rfl, ⟨hF.symm, k1⟩, ⟨by rw [ht]; exact hP, va_K.moved hW.alike hK, hD⟩⟩, hS.F ht⟩) hS.2.2 d_Calls_beginCatch_8
/-- the picture of ColonMachine$Calls.cutTo -/
def F_Calls_cutTo (n : Int32) (x1 : Int32) : Int32 := if x1 < 0 then n else (if n ≤ x1 then n else x1)
theorem F_Calls_cutTo_e (n : Int32) (x1 : Int32) : F_Calls_cutTo n x1 = if x1 < 0 then n else (if n ≤ x1 then n else x1) := rfl
set_option maxHeartbeats 4000000 in
set_option maxRecDepth 100000 in
theorem c_Calls_cutTo (l : Launch) (D : va_G) (cI cJ cZ cW cT : ClassId) (sz : Nat) (h : Nat) (ao : Nat) (ap : Nat) (ar : Nat) (ad : Nat) (n : Int32) (x1 : Int32) (hi : CallsOk n) : Met l y_Calls_cutTo w_Calls_cutTo ({ frames := 0, cells := 0, slots := 0, locals := 0 }) (va_Pc [.ref h, .int x1] (zP D classes (TY cI cJ cZ cW cT) [(h, .inr (0, [.ref ao, .ref ap, .ref ar, .ref ad, .int n]))] sz)) (va_Qv (fun u : Int32 => u = F_Calls_cutTo n x1 ∧ ((CallsOk u))) (fun u => zB D classes (TY cI cJ cZ cW cT) (va_A [(h, .inr (0, [.ref ao, .ref ap, .ref ar, .ref ad, .int n]))] sz) [(h, .inr (0, [.ref ao, .ref ap, .ref ar, .ref ad, .int u]))]) (va_A [(h, .inr (0, [.ref ao, .ref ap, .ref ar, .ref ad, .int n]))] sz)) 0 0 (va_A [(h, .inr (0, [.ref ao, .ref ap, .ref ar, .ref ad, .int n]))] sz) := by
  refine Met.ofW (cc := b_Calls_cutTo) (maxL := 2) (ret := none) (by decide) rfl ?_
  intro p e s m args below meth c s₁ B hml hv
  obtain ⟨rfl, hsz, hP, hK, hD0, hE⟩ := hv
  have hx := B.exec
  have hb := B.bytes
  have hr := B.returns
  have hts := atoms_spec (ws := w_Calls_cutTo) B.pre
  have hT : ∀ w ∈ TB, w.before _ s = true := fun w h => hts w (List.mem_cons_of_mem _ h)
  have hown : s.vm.findClass "ColonMachine$Calls" = some m.cls := findClass_of_methodNamed B.named
  have hlocks := B.notSynchronized
  subst hsz
  have hD := hD0.self (sz := s.heap.size)
  generalize hAe : va_A [(h, .inr (0, [.ref ao, .ref ap, .ref ar, .ref ad, .int n]))] s.heap.size = A at hD hE ⊢
  have hA : ∀ q : Nat, s.heap.size ≤ q → A q := fun q h => by rw [← hAe]; exact Or.inr h
  have hS : va_S A s.heap s.heap [] := va_S.rf
  have hl := lv_entry [.ref h, .int x1] (n := 2) (Nat.le_of_ble_eq_true rfl)
  rw [lg_entry_eq]
  generalize (lg_sl [.ref h, .int x1] ++ List.replicate (2 - (lg_sl [.ref h, .int x1]).length) Slot.unset).toArray = ls at hl ⊢
  have hl : lv_has ls 2 [(0, .ref h), (1, .int x1)] := hl
  have hF := F_Calls_cutTo_e n x1
  refine lv_iload_n hx hb d_Calls_cutTo_0 rfl (lv_at hl 1 rfl) ?_
  refine lv_if_lt (tgt := 17) hx hb d_Calls_cutTo_1 (by decide) (fun c1 => ?_) (fun c1 => ?_)
  · have hF := hF.trans (if_pos c1)
    exact W.vret hx hb hr (fun t ht hW => ⟨⟨_, rfl, ⟨hF.symm, hi⟩, ⟨by rw [ht]; exact hP, va_K.moved hW.alike hK, hD⟩⟩, hS.F ht⟩) hS.2.2 d_Calls_cutTo_17
  · have hF := hF.trans (if_neg c1)
    refine lv_iload_n hx hb d_Calls_cutTo_4 rfl (lv_at hl 1 rfl) ?_
    refine lv_aload_n hx hb d_Calls_cutTo_5 rfl (lv_at hl 0 rfl) ?_
    refine va_get (D := D) (v := .int n) (C := "ColonMachine$Calls") (T := T_Calls) (N := 5) hx hb hT i_Calls hown hK hP 0 rfl rfl 4 (by decide) (hT _ fl_Calls_24) (fun _ h9 => h9) rfl d_Calls_cutTo_6 ?_
    refine lv_icmp_ge (tgt := 17) hx hb d_Calls_cutTo_9 (by decide) (fun c2 => ?_) (fun c2 => ?_)
    · have hF := hF.trans (if_pos c2)
      exact W.vret hx hb hr (fun t ht hW => ⟨⟨_, rfl, ⟨hF.symm, hi⟩, ⟨by rw [ht]; exact hP, va_K.moved hW.alike hK, hD⟩⟩, hS.F ht⟩) hS.2.2 d_Calls_cutTo_17
    · have hF := hF.trans (if_neg c2)
      refine lv_aload_n hx hb d_Calls_cutTo_12 rfl (lv_at hl 0 rfl) ?_
      refine lv_iload_n hx hb d_Calls_cutTo_13 rfl (lv_at hl 1 rfl) ?_
      refine va_put (D := D) (v := .int x1) (ty := .int) (C := "ColonMachine$Calls") (T := T_Calls) (N := 5) hx hb hT i_Calls t_Calls tk_Calls n_Calls hown hK hP hD hS 0 rfl rfl 4 (by decide) (hT _ fl_Calls_24) (fun _ h9 => h9) rfl (by decide +kernel) rfl rfl (Nat.le_of_ble_eq_true rfl) d_Calls_cutTo_14 (fun H locs hP hD hS => ?_)
      have hP : va_P D classes [(h, .inr (0, [.ref ao, .ref ap, .ref ar, .ref ad, .int x1]))] H := hP
      have hD : va_D A [(h, .inr (0, [.ref ao, .ref ap, .ref ar, .ref ad, .int x1]))] := hD
      exact W.vret hx hb hr (fun t ht hW => ⟨⟨_, rfl, ⟨hF.symm, (by have := ti_lo x1; have := ti_hi x1; have := ti_lo n; have := ti_hi n; have t0 : Int32.toInt 0 = 0 := rfl; (try simp only [true_or, or_true, true_and, and_true, z_tn, CellsOk, CallsOk, TextOk, MemOk, OutOk, Int32.lt_iff_toInt_lt, Int32.le_iff_toInt_le, ← Int32.toInt_inj, Int32.toInt_add, Int32.toInt_sub, Int32.toInt_mul, Int32.toInt_neg, zbm, zbm', t0] at c1 c2 hi ⊢) <;> omega)⟩, ⟨by rw [ht]; exact hP, va_K.moved hW.alike hK, hD⟩⟩, hS.F ht⟩) hS.2.2 d_Calls_cutTo_17
/-- the picture of ColonMachine$Calls.end -/
def F_Calls_end (n : Int32) : Int32 := bd (F_Calls_cutTo n (n - 1)) (fun q1 => q1)
theorem F_Calls_end_e (n : Int32) : F_Calls_end n = bd (F_Calls_cutTo n (n - 1)) (fun q1 => q1) := rfl
set_option maxHeartbeats 4000000 in
set_option maxRecDepth 100000 in
theorem c_Calls_end (l : Launch) (D : va_G) (cI cJ cZ cW cT : ClassId) (sz : Nat) (h : Nat) (ao : Nat) (ap : Nat) (ar : Nat) (ad : Nat) (n : Int32) (hi : CallsOk n) : Met l y_Calls_end w_Calls_end ({ frames := 1, cells := 0, slots := 0, locals := 21 }) (va_Pc [.ref h] (zP D classes (TY cI cJ cZ cW cT) [(h, .inr (0, [.ref ao, .ref ap, .ref ar, .ref ad, .int n]))] sz)) (va_Qv (fun u : Int32 => u = F_Calls_end n ∧ ((CallsOk u))) (fun u => zB D classes (TY cI cJ cZ cW cT) (va_A [(h, .inr (0, [.ref ao, .ref ap, .ref ar, .ref ad, .int n]))] sz) [(h, .inr (0, [.ref ao, .ref ap, .ref ar, .ref ad, .int u]))]) (va_A [(h, .inr (0, [.ref ao, .ref ap, .ref ar, .ref ad, .int n]))] sz)) 0 0 (va_A [(h, .inr (0, [.ref ao, .ref ap, .ref ar, .ref ad, .int n]))] sz) := by
  refine Met.ofW (cc := b_Calls_end) (maxL := 1) (ret := none) (by decide) rfl ?_
  intro p e s m args below meth c s₁ B hml hv
  obtain ⟨rfl, hsz, hP, hK, hD0, hE⟩ := hv
  have hx := B.exec
  have hb := B.bytes
  have hr := B.returns
  have hts := atoms_spec (ws := w_Calls_end) B.pre
  have hT : ∀ w ∈ TB, w.before _ s = true := fun w h => hts w (List.mem_cons_of_mem _ h)
  have hown : s.vm.findClass "ColonMachine$Calls" = some m.cls := findClass_of_methodNamed B.named
  have hlocks := B.notSynchronized
  subst hsz
  have hD := hD0.self (sz := s.heap.size)
  generalize hAe : va_A [(h, .inr (0, [.ref ao, .ref ap, .ref ar, .ref ad, .int n]))] s.heap.size = A at hD hE ⊢
  have hA : ∀ q : Nat, s.heap.size ≤ q → A q := fun q h => by rw [← hAe]; exact Or.inr h
  have hS : va_S A s.heap s.heap [] := va_S.rf
  have hl := lv_entry [.ref h] (n := 1) (Nat.le_of_ble_eq_true rfl)
  rw [lg_entry_eq]
  generalize (lg_sl [.ref h] ++ List.replicate (1 - (lg_sl [.ref h]).length) Slot.unset).toArray = ls at hl ⊢
  have hl : lv_has ls 1 [(0, .ref h)] := hl
  have hF := F_Calls_end_e n
  refine lv_aload_n hx hb d_Calls_end_0 rfl (lv_at hl 0 rfl) ?_
  refine lv_aload_n hx hb d_Calls_end_1 rfl (lv_at hl 0 rfl) ?_
  refine va_get (D := D) (v := .int n) (C := "ColonMachine$Calls") (T := T_Calls) (N := 5) hx hb hT i_Calls hown hK hP 0 rfl rfl 4 (by decide) (hT _ fl_Calls_24) (fun _ h9 => h9) rfl d_Calls_end_2 ?_
  refine lv_iconst (v := 1) hx hb d_Calls_end_5 (by decide) ?_
  refine lv_isub hx hb d_Calls_end_6 ?_
  refine kN_sv (wr := []) (fun u : Int32 => [(h, .inr (0, [.ref ao, .ref ap, .ref ar, .ref ad, .int u]))]) (zV (wc := [(h, .inr (0, [.ref ao, .ref ap, .ref ar, .ref ad, .int n]))]) (As := [.int (n - 1)]) (rest := []) (st0 := [.int (n - 1), .ref h]) ⟨hx, hb, hml, hown, hT⟩ (c_Calls_cutTo l D cI cJ cZ cW cT s.heap.size h ao ap ar ad n (n - 1) hi) (cwV 1 hT (tbV ml_Calls_32 im_Calls_cutTo se_Calls_cutTo in_Calls co_Calls_cutTo) rfl rfl rfl v_Calls_cutTo ⟨Nat.le_of_ble_eq_true rfl, Nat.le_of_ble_eq_true rfl⟩) hK hE hP hD hS hA [0] rfl rfl 0 rfl rfl rfl hl.1 rfl (Nat.le_of_ble_eq_true rfl) d_Calls_end_7 ⟨Nat.le_of_ble_eq_true rfl, Nat.le_of_ble_eq_true rfl⟩) hP hD hS hA [0] [] rfl rfl rfl (by decide) [0] rfl (fun u => rfl) (fun q1 H locs e1 k1 hP hD hS => ?_)
  have hP : va_P D classes [(h, .inr (0, [.ref ao, .ref ap, .ref ar, .ref ad, .int q1]))] H := hP
  have hD : va_D A [(h, .inr (0, [.ref ao, .ref ap, .ref ar, .ref ad, .int q1]))] := hD
  have hF := hF.trans (bd_e e1)
  exact W.vret hx hb hr (fun t ht hW => ⟨⟨_, rfl, ⟨hF.symm, k1⟩, ⟨by rw [ht]; exact hP, va_K.moved hW.alike hK, hD⟩⟩, hS.F ht⟩) hS.2.2 d_Calls_end_10
/-- the picture of ColonMachine$Calls.topIsCatch -/
def F_Calls_topIsCatch (n : Int32) (fo : Nat → Int32) : Int32 := if n ≤ 0 then 0 else (if (fo (n - 1).toNatClampNeg) = (-1) then 1 else 0)
theorem F_Calls_topIsCatch_e (n : Int32) (fo : Nat → Int32) : F_Calls_topIsCatch n fo = if n ≤ 0 then 0 else (if (fo (n - 1).toNatClampNeg) = (-1) then 1 else 0) := rfl
set_option maxHeartbeats 4000000 in
set_option maxRecDepth 100000 in
theorem c_Calls_topIsCatch (l : Launch) (D : va_G) (cI cJ cZ cW cT : ClassId) (sz : Nat) (h : Nat) (ao : Nat) (ap : Nat) (ar : Nat) (ad : Nat) (n : Int32) (fo : Nat → Int32) (hi : CallsOk n) : Met l y_Calls_topIsCatch w_Calls_topIsCatch ({ frames := 0, cells := 0, slots := 0, locals := 0 }) (va_Pc [.ref h] (zP D classes (TY cI cJ cZ cW cT) [(h, .inr (0, [.ref ao, .ref ap, .ref ar, .ref ad, .int n])), (ao, .inl (cI, 40, .inl fo))] sz)) (va_Qi (fun (r : Int32) (_ : Unit) => r = F_Calls_topIsCatch n fo ∧ ((r = 0 ∨ r = 1))) (fun _ => zB D classes (TY cI cJ cZ cW cT) (va_A [(h, .inr (0, [.ref ao, .ref ap, .ref ar, .ref ad, .int n])), (ao, .inl (cI, 40, .inl fo))] sz) [(h, .inr (0, [.ref ao, .ref ap, .ref ar, .ref ad, .int n])), (ao, .inl (cI, 40, .inl fo))]) (va_A [(h, .inr (0, [.ref ao, .ref ap, .ref ar, .ref ad, .int n])), (ao, .inl (cI, 40, .inl fo))] sz)) 0 0 (va_A [(h, .inr (0, [.ref ao, .ref ap, .ref ar, .ref ad, .int n])), (ao, .inl (cI, 40, .inl fo))] sz) := by
  refine Met.ofW (cc := b_Calls_topIsCatch) (maxL := 1) (ret := (some .boolean)) (by decide) rfl ?_
  intro p e s m args below meth c s₁ B hml hv
  obtain ⟨rfl, hsz, hP, hK, hD0, hE⟩ := hv
  have hx := B.exec
  have hb := B.bytes
  have hr := B.returns
  have hts := atoms_spec (ws := w_Calls_topIsCatch) B.pre
  have hT : ∀ w ∈ TB, w.before _ s = true := fun w h => hts w (List.mem_cons_of_mem _ h)
  have hown : s.vm.findClass "ColonMachine$Calls" = some m.cls := findClass_of_methodNamed B.named
  have hlocks := B.notSynchronized
  subst hsz
  have hD := hD0.self (sz := s.heap.size)
  generalize hAe : va_A [(h, .inr (0, [.ref ao, .ref ap, .ref ar, .ref ad, .int n])), (ao, .inl (cI, 40, .inl fo))] s.heap.size = A at hD hE ⊢
  have hA : ∀ q : Nat, s.heap.size ≤ q → A q := fun q h => by rw [← hAe]; exact Or.inr h
  have hS : va_S A s.heap s.heap [] := va_S.rf
  have hl := lv_entry [.ref h] (n := 1) (Nat.le_of_ble_eq_true rfl)
  rw [lg_entry_eq]
  generalize (lg_sl [.ref h] ++ List.replicate (1 - (lg_sl [.ref h]).length) Slot.unset).toArray = ls at hl ⊢
  have hl : lv_has ls 1 [(0, .ref h)] := hl
  have hF := F_Calls_topIsCatch_e n fo
  refine lv_aload_n hx hb d_Calls_topIsCatch_0 rfl (lv_at hl 0 rfl) ?_
  refine va_get (D := D) (v := .int n) (C := "ColonMachine$Calls") (T := T_Calls) (N := 5) hx hb hT i_Calls hown hK hP 0 rfl rfl 4 (by decide) (hT _ fl_Calls_24) (fun _ h9 => h9) rfl d_Calls_topIsCatch_1 ?_
  refine lv_if_le (tgt := 26) hx hb d_Calls_topIsCatch_4 (by decide) (fun c1 => ?_) (fun c1 => ?_)
  · have hF := hF.trans (if_pos c1)
    refine lv_iconst (v := 0) hx hb d_Calls_topIsCatch_26 (by decide) ?_
    exact W.zret (v := 0) hx hb hr rfl (fun t ht hW => ⟨⟨_, (), rfl, ⟨hF.symm, (Or.inl rfl)⟩, ⟨by rw [ht]; exact hP, va_K.moved hW.alike hK, hD⟩⟩, hS.F ht⟩) hS.2.2 d_Calls_topIsCatch_27
  · have hF := hF.trans (if_neg c1)
    refine lv_aload_n hx hb d_Calls_topIsCatch_7 rfl (lv_at hl 0 rfl) ?_
    refine va_get (D := D) (v := .ref ao) (C := "ColonMachine$Calls") (T := T_Calls) (N := 5) hx hb hT i_Calls hown hK hP 0 rfl rfl 0 (by decide) (hT _ fl_Calls_11) (fun _ h9 => h9) rfl d_Calls_topIsCatch_8 ?_
    refine lv_aload_n hx hb d_Calls_topIsCatch_11 rfl (lv_at hl 0 rfl) ?_
    refine va_get (D := D) (v := .int n) (C := "ColonMachine$Calls") (T := T_Calls) (N := 5) hx hb hT i_Calls hown hK hP 0 rfl rfl 4 (by decide) (hT _ fl_Calls_24) (fun _ h9 => h9) rfl d_Calls_topIsCatch_12 ?_
    refine lv_iconst (v := 1) hx hb d_Calls_topIsCatch_15 (by decide) ?_
    refine lv_isub hx hb d_Calls_topIsCatch_16 ?_
    refine va_iald hx hb hK hP 1 0 rfl rfl (by have := ti_lo n; have := ti_hi n; have t1 : Int32.toInt 1 = 1 := rfl; have t40 : Int32.toInt 40 = 40 := rfl; have t0 : Int32.toInt 0 = 0 := rfl; rw [vp_in_iff]; (try simp only [true_or, or_true, true_and, and_true, z_tn, CellsOk, CallsOk, TextOk, MemOk, OutOk, Int32.lt_iff_toInt_lt, Int32.le_iff_toInt_le, ← Int32.toInt_inj, Int32.toInt_add, Int32.toInt_sub, Int32.toInt_mul, Int32.toInt_neg, zbm, zbm', t1, t40, t0] at c1 hi ⊢) <;> omega) d_Calls_topIsCatch_17 ?_
    refine lv_iconst (v := (-1)) hx hb d_Calls_topIsCatch_18 (by decide) ?_
    refine lv_icmp_ne (tgt := 26) hx hb d_Calls_topIsCatch_19 (by decide) (fun c2 => ?_) (fun c2 => ?_)
    · have hF := hF.trans (if_neg c2)
      refine lv_iconst (v := 0) hx hb d_Calls_topIsCatch_26 (by decide) ?_
      exact W.zret (v := 0) hx hb hr rfl (fun t ht hW => ⟨⟨_, (), rfl, ⟨hF.symm, (Or.inl rfl)⟩, ⟨by rw [ht]; exact hP, va_K.moved hW.alike hK, hD⟩⟩, hS.F ht⟩) hS.2.2 d_Calls_topIsCatch_27
    · have hF := hF.trans (if_pos c2)
      refine lv_iconst (v := 1) hx hb d_Calls_topIsCatch_22 (by decide) ?_
      refine lv_goto (tgt := 27) hx hb d_Calls_topIsCatch_23 (by decide) ?_
      exact W.zret (v := 1) hx hb hr rfl (fun t ht hW => ⟨⟨_, (), rfl, ⟨hF.symm, (Or.inr rfl)⟩, ⟨by rw [ht]; exact hP, va_K.moved hW.alike hK, hD⟩⟩, hS.F ht⟩) hS.2.2 d_Calls_topIsCatch_27
/-- the picture of ColonMachine$Calls.topIsBody -/
def F_Calls_topIsBody (n : Int32) (fo : Nat → Int32) : Int32 := if n ≤ 0 then 0 else (if (fo (n - 1).toNatClampNeg) = (-1) then 0 else 1)
theorem F_Calls_topIsBody_e (n : Int32) (fo : Nat → Int32) : F_Calls_topIsBody n fo = if n ≤ 0 then 0 else (if (fo (n - 1).toNatClampNeg) = (-1) then 0 else 1) := rfl
set_option maxHeartbeats 4000000 in
set_option maxRecDepth 100000 in
theorem c_Calls_topIsBody (l : Launch) (D : va_G) (cI cJ cZ cW cT : ClassId) (sz : Nat) (h : Nat) (ao : Nat) (ap : Nat) (ar : Nat) (ad : Nat) (n : Int32) (fo : Nat → Int32) (hi : CallsOk n) : Met l y_Calls_topIsBody w_Calls_topIsBody ({ frames := 0, cells := 0, slots := 0, locals := 0 }) (va_Pc [.ref h] (zP D classes (TY cI cJ cZ cW cT) [(h, .inr (0, [.ref ao, .ref ap, .ref ar, .ref ad, .int n])), (ao, .inl (cI, 40, .inl fo))] sz)) (va_Qi (fun (r : Int32) (_ : Unit) => r = F_Calls_topIsBody n fo ∧ ((r = 0 ∨ r = 1))) (fun _ => zB D classes (TY cI cJ cZ cW cT) (va_A [(h, .inr (0, [.ref ao, .ref ap, .ref ar, .ref ad, .int n])), (ao, .inl (cI, 40, .inl fo))] sz) [(h, .inr (0, [.ref ao, .ref ap, .ref ar, .ref ad, .int n])), (ao, .inl (cI, 40, .inl fo))]) (va_A [(h, .inr (0, [.ref ao, .ref ap, .ref ar, .ref ad, .int n])), (ao, .inl (cI, 40, .inl fo))] sz)) 0 0 (va_A [(h, .inr (0, [.ref ao, .ref ap, .ref ar, .ref ad, .int n])), (ao, .inl (cI, 40, .inl fo))] sz) := by
  refine Met.ofW (cc := b_Calls_topIsBody) (maxL := 1) (ret := (some .boolean)) (by decide) rfl ?_
  intro p e s m args below meth c s₁ B hml hv
  obtain ⟨rfl, hsz, hP, hK, hD0, hE⟩ := hv
  have hx := B.exec
  have hb := B.bytes
  have hr := B.returns
  have hts := atoms_spec (ws := w_Calls_topIsBody) B.pre
  have hT : ∀ w ∈ TB, w.before _ s = true := fun w h => hts w (List.mem_cons_of_mem _ h)
  have hown : s.vm.findClass "ColonMachine$Calls" = some m.cls := findClass_of_methodNamed B.named
  have hlocks := B.notSynchronized
  subst hsz
  have hD := hD0.self (sz := s.heap.size)
  generalize hAe : va_A [(h, .inr (0, [.ref ao, .ref ap, .ref ar, .ref ad, .int n])), (ao, .inl (cI, 40, .inl fo))] s.heap.size = A at hD hE ⊢
  have hA : ∀ q : Nat, s.heap.size ≤ q → A q := fun q h => by rw [← hAe]; exact Or.inr h
  have hS : va_S A s.heap s.heap [] := va_S.rf
  have hl := lv_entry [.ref h] (n := 1) (Nat.le_of_ble_eq_true rfl)
  rw [lg_entry_eq]
  generalize (lg_sl [.ref h] ++ List.replicate (1 - (lg_sl [.ref h]).length) Slot.unset).toArray = ls at hl ⊢
  have hl : lv_has ls 1 [(0, .ref h)] := hl
  have hF := F_Calls_topIsBody_e n fo
  refine lv_aload_n hx hb d_Calls_topIsBody_0 rfl (lv_at hl 0 rfl) ?_
  refine va_get (D := D) (v := .int n) (C := "ColonMachine$Calls") (T := T_Calls) (N := 5) hx hb hT i_Calls hown hK hP 0 rfl rfl 4 (by decide) (hT _ fl_Calls_24) (fun _ h9 => h9) rfl d_Calls_topIsBody_1 ?_
  refine lv_if_le (tgt := 26) hx hb d_Calls_topIsBody_4 (by decide) (fun c1 => ?_) (fun c1 => ?_)
  · have hF := hF.trans (if_pos c1)
    refine lv_iconst (v := 0) hx hb d_Calls_topIsBody_26 (by decide) ?_
    exact W.zret (v := 0) hx hb hr rfl (fun t ht hW => ⟨⟨_, (), rfl, ⟨hF.symm, (Or.inl rfl)⟩, ⟨by rw [ht]; exact hP, va_K.moved hW.alike hK, hD⟩⟩, hS.F ht⟩) hS.2.2 d_Calls_topIsBody_27
  · have hF := hF.trans (if_neg c1)
    refine lv_aload_n hx hb d_Calls_topIsBody_7 rfl (lv_at hl 0 rfl) ?_
    refine va_get (D := D) (v := .ref ao) (C := "ColonMachine$Calls") (T := T_Calls) (N := 5) hx hb hT i_Calls hown hK hP 0 rfl rfl 0 (by decide) (hT _ fl_Calls_11) (fun _ h9 => h9) rfl d_Calls_topIsBody_8 ?_
    refine lv_aload_n hx hb d_Calls_topIsBody_11 rfl (lv_at hl 0 rfl) ?_
    refine va_get (D := D) (v := .int n) (C := "ColonMachine$Calls") (T := T_Calls) (N := 5) hx hb hT i_Calls hown hK hP 0 rfl rfl 4 (by decide) (hT _ fl_Calls_24) (fun _ h9 => h9) rfl d_Calls_topIsBody_12 ?_
    refine lv_iconst (v := 1) hx hb d_Calls_topIsBody_15 (by decide) ?_
    refine lv_isub hx hb d_Calls_topIsBody_16 ?_
    refine va_iald hx hb hK hP 1 0 rfl rfl (by have := ti_lo n; have := ti_hi n; have t1 : Int32.toInt 1 = 1 := rfl; have t40 : Int32.toInt 40 = 40 := rfl; have t0 : Int32.toInt 0 = 0 := rfl; rw [vp_in_iff]; (try simp only [true_or, or_true, true_and, and_true, z_tn, CellsOk, CallsOk, TextOk, MemOk, OutOk, Int32.lt_iff_toInt_lt, Int32.le_iff_toInt_le, ← Int32.toInt_inj, Int32.toInt_add, Int32.toInt_sub, Int32.toInt_mul, Int32.toInt_neg, zbm, zbm', t1, t40, t0] at c1 hi ⊢) <;> omega) d_Calls_topIsBody_17 ?_
    refine lv_iconst (v := (-1)) hx hb d_Calls_topIsBody_18 (by decide) ?_
    refine lv_icmp_eq (tgt := 26) hx hb d_Calls_topIsBody_19 (by decide) (fun c2 => ?_) (fun c2 => ?_)
    · have hF := hF.trans (if_pos c2)
      refine lv_iconst (v := 0) hx hb d_Calls_topIsBody_26 (by decide) ?_
      exact W.zret (v := 0) hx hb hr rfl (fun t ht hW => ⟨⟨_, (), rfl, ⟨hF.symm, (Or.inl rfl)⟩, ⟨by rw [ht]; exact hP, va_K.moved hW.alike hK, hD⟩⟩, hS.F ht⟩) hS.2.2 d_Calls_topIsBody_27
    · have hF := hF.trans (if_neg c2)
      refine lv_iconst (v := 1) hx hb d_Calls_topIsBody_22 (by decide) ?_
      refine lv_goto (tgt := 27) hx hb d_Calls_topIsBody_23 (by decide) ?_
      exact W.zret (v := 1) hx hb hr rfl (fun t ht hW => ⟨⟨_, (), rfl, ⟨hF.symm, (Or.inr rfl)⟩, ⟨by rw [ht]; exact hP, va_K.moved hW.alike hK, hD⟩⟩, hS.F ht⟩) hS.2.2 d_Calls_topIsBody_27
/-- the picture of ColonMachine$Calls.topOwner -/
def F_Calls_topOwner (n : Int32) (fo : Nat → Int32) : Int32 := if n ≤ 0 then (-1) else (fo (n - 1).toNatClampNeg)
theorem F_Calls_topOwner_e (n : Int32) (fo : Nat → Int32) : F_Calls_topOwner n fo = if n ≤ 0 then (-1) else (fo (n - 1).toNatClampNeg) := rfl
set_option maxHeartbeats 4000000 in
set_option maxRecDepth 100000 in
theorem c_Calls_topOwner (l : Launch) (D : va_G) (cI cJ cZ cW cT : ClassId) (sz : Nat) (h : Nat) (ao : Nat) (ap : Nat) (ar : Nat) (ad : Nat) (n : Int32) (fo : Nat → Int32) (hi : CallsOk n) : Met l y_Calls_topOwner w_Calls_topOwner ({ frames := 0, cells := 0, slots := 0, locals := 0 }) (va_Pc [.ref h] (zP D classes (TY cI cJ cZ cW cT) [(h, .inr (0, [.ref ao, .ref ap, .ref ar, .ref ad, .int n])), (ao, .inl (cI, 40, .inl fo))] sz)) (va_Qi (fun (r : Int32) (_ : Unit) => r = F_Calls_topOwner n fo ∧ (True)) (fun _ => zB D classes (TY cI cJ cZ cW cT) (va_A [(h, .inr (0, [.ref ao, .ref ap, .ref ar, .ref ad, .int n])), (ao, .inl (cI, 40, .inl fo))] sz) [(h, .inr (0, [.ref ao, .ref ap, .ref ar, .ref ad, .int n])), (ao, .inl (cI, 40, .inl fo))]) (va_A [(h, .inr (0, [.ref ao, .ref ap, .ref ar, .ref ad, .int n])), (ao, .inl (cI, 40, .inl fo))] sz)) 0 0 (va_A [(h, .inr (0, [.ref ao, .ref ap, .ref ar, .ref ad, .int n])), (ao, .inl (cI, 40, .inl fo))] sz) := by
  refine Met.ofW (cc := b_Calls_topOwner) (maxL := 1) (ret := (some .int)) (by decide) rfl ?_
  intro p e s m args below meth c s₁ B hml hv
  obtain ⟨rfl, hsz, hP, hK, hD0, hE⟩ := hv
  have hx := B.exec
  have hb := B.bytes
  have hr := B.returns
  have hts := atoms_spec (ws := w_Calls_topOwner) B.pre
  have hT : ∀ w ∈ TB, w.before _ s = true := fun w h => hts w (List.mem_cons_of_mem _ h)
  have hown : s.vm.findClass "ColonMachine$Calls" = some m.cls := findClass_of_methodNamed B.named
  have hlocks := B.notSynchronized
  subst hsz
  have hD := hD0.self (sz := s.heap.size)
  generalize hAe : va_A [(h, .inr (0, [.ref ao, .ref ap, .ref ar, .ref ad, .int n])), (ao, .inl (cI, 40, .inl fo))] s.heap.size = A at hD hE ⊢
  have hA : ∀ q : Nat, s.heap.size ≤ q → A q := fun q h => by rw [← hAe]; exact Or.inr h
  have hS : va_S A s.heap s.heap [] := va_S.rf
  have hl := lv_entry [.ref h] (n := 1) (Nat.le_of_ble_eq_true rfl)
  rw [lg_entry_eq]
  generalize (lg_sl [.ref h] ++ List.replicate (1 - (lg_sl [.ref h]).length) Slot.unset).toArray = ls at hl ⊢
  have hl : lv_has ls 1 [(0, .ref h)] := hl
  have hF := F_Calls_topOwner_e n fo
  refine lv_aload_n hx hb d_Calls_topOwner_0 rfl (lv_at hl 0 rfl) ?_
  refine va_get (D := D) (v := .int n) (C := "ColonMachine$Calls") (T := T_Calls) (N := 5) hx hb hT i_Calls hown hK hP 0 rfl rfl 4 (by decide) (hT _ fl_Calls_24) (fun _ h9 => h9) rfl d_Calls_topOwner_1 ?_
  refine lv_if_le (tgt := 21) hx hb d_Calls_topOwner_4 (by decide) (fun c1 => ?_) (fun c1 => ?_)
  · have hF := hF.trans (if_pos c1)
    refine lv_iconst (v := (-1)) hx hb d_Calls_topOwner_21 (by decide) ?_
    exact W.iret (v := (-1)) hx hb hr (fun t ht hW => ⟨⟨_, (), rfl, ⟨hF.symm, trivial⟩, ⟨by rw [ht]; exact hP, va_K.moved hW.alike hK, hD⟩⟩, hS.F ht⟩) hS.2.2 d_Calls_topOwner_22
  · have hF := hF.trans (if_neg c1)
    refine lv_aload_n hx hb d_Calls_topOwner_7 rfl (lv_at hl 0 rfl) ?_
    refine va_get (D := D) (v := .ref ao) (C := "ColonMachine$Calls") (T := T_Calls) (N := 5) hx hb hT i_Calls hown hK hP 0 rfl rfl 0 (by decide) (hT _ fl_Calls_11) (fun _ h9 => h9) rfl d_Calls_topOwner_8 ?_
    refine lv_aload_n hx hb d_Calls_topOwner_11 rfl (lv_at hl 0 rfl) ?_
    refine va_get (D := D) (v := .int n) (C := "ColonMachine$Calls") (T := T_Calls) (N := 5) hx hb hT i_Calls hown hK hP 0 rfl rfl 4 (by decide) (hT _ fl_Calls_24) (fun _ h9 => h9) rfl d_Calls_topOwner_12 ?_
    refine lv_iconst (v := 1) hx hb d_Calls_topOwner_15 (by decide) ?_
    refine lv_isub hx hb d_Calls_topOwner_16 ?_
    refine va_iald hx hb hK hP 1 0 rfl rfl (by have := ti_lo n; have := ti_hi n; have t1 : Int32.toInt 1 = 1 := rfl; have t40 : Int32.toInt 40 = 40 := rfl; have t0 : Int32.toInt 0 = 0 := rfl; rw [vp_in_iff]; (try simp only [true_or, or_true, true_and, and_true, z_tn, CellsOk, CallsOk, TextOk, MemOk, OutOk, Int32.lt_iff_toInt_lt, Int32.le_iff_toInt_le, ← Int32.toInt_inj, Int32.toInt_add, Int32.toInt_sub, Int32.toInt_mul, Int32.toInt_neg, zbm, zbm', t1, t40, t0] at c1 hi ⊢) <;> omega) d_Calls_topOwner_17 ?_
    refine lv_goto (tgt := 22) hx hb d_Calls_topOwner_18 (by decide) ?_
    exact W.iret (v := fo (n - 1).toNatClampNeg) hx hb hr (fun t ht hW => ⟨⟨_, (), rfl, ⟨hF.symm, trivial⟩, ⟨by rw [ht]; exact hP, va_K.moved hW.alike hK, hD⟩⟩, hS.F ht⟩) hS.2.2 d_Calls_topOwner_22
/-- the picture of ColonMachine$Calls.topPlace -/
def F_Calls_topPlace (n : Int32) (fp : Nat → Int32) : Int32 := if n ≤ 0 then 0 else (fp (n - 1).toNatClampNeg)
theorem F_Calls_topPlace_e (n : Int32) (fp : Nat → Int32) : F_Calls_topPlace n fp = if n ≤ 0 then 0 else (fp (n - 1).toNatClampNeg) := rfl
set_option maxHeartbeats 4000000 in
set_option maxRecDepth 100000 in
theorem c_Calls_topPlace (l : Launch) (D : va_G) (cI cJ cZ cW cT : ClassId) (sz : Nat) (h : Nat) (ao : Nat) (ap : Nat) (ar : Nat) (ad : Nat) (n : Int32) (fp : Nat → Int32) (hi : CallsOk n) : Met l y_Calls_topPlace w_Calls_topPlace ({ frames := 0, cells := 0, slots := 0, locals := 0 }) (va_Pc [.ref h] (zP D classes (TY cI cJ cZ cW cT) [(h, .inr (0, [.ref ao, .ref ap, .ref ar, .ref ad, .int n])), (ap, .inl (cI, 40, .inl fp))] sz)) (va_Qi (fun (r : Int32) (_ : Unit) => r = F_Calls_topPlace n fp ∧ (True)) (fun _ => zB D classes (TY cI cJ cZ cW cT) (va_A [(h, .inr (0, [.ref ao, .ref ap, .ref ar, .ref ad, .int n])), (ap, .inl (cI, 40, .inl fp))] sz) [(h, .inr (0, [.ref ao, .ref ap, .ref ar, .ref ad, .int n])), (ap, .inl (cI, 40, .inl fp))]) (va_A [(h, .inr (0, [.ref ao, .ref ap, .ref ar, .ref ad, .int n])), (ap, .inl (cI, 40, .inl fp))] sz)) 0 0 (va_A [(h, .inr (0, [.ref ao, .ref ap, .ref ar, .ref ad, .int n])), (ap, .inl (cI, 40, .inl fp))] sz) := by
  refine Met.ofW (cc := b_Calls_topPlace) (maxL := 1) (ret := (some .int)) (by decide) rfl ?_
  intro p e s m args below meth c s₁ B hml hv
  obtain ⟨rfl, hsz, hP, hK, hD0, hE⟩ := hv
  have hx := B.exec
  have hb := B.bytes
  have hr := B.returns
  have hts := atoms_spec (ws := w_Calls_topPlace) B.pre
  have hT : ∀ w ∈ TB, w.before _ s = true := fun w h => hts w (List.mem_cons_of_mem _ h)
  have hown : s.vm.findClass "ColonMachine$Calls" = some m.cls := findClass_of_methodNamed B.named
  have hlocks := B.notSynchronized
  subst hsz
  have hD := hD0.self (sz := s.heap.size)
  generalize hAe : va_A [(h, .inr (0, [.ref ao, .ref ap, .ref ar, .ref ad, .int n])), (ap, .inl (cI, 40, .inl fp))] s.heap.size = A at hD hE ⊢
  have hA : ∀ q : Nat, s.heap.size ≤ q → A q := fun q h => by rw [← hAe]; exact Or.inr h
  have hS : va_S A s.heap s.heap [] := va_S.rf
  have hl := lv_entry [.ref h] (n := 1) (Nat.le_of_ble_eq_true rfl)
  rw [lg_entry_eq]
  generalize (lg_sl [.ref h] ++ List.replicate (1 - (lg_sl [.ref h]).length) Slot.unset).toArray = ls at hl ⊢
  have hl : lv_has ls 1 [(0, .ref h)] := hl
  have hF := F_Calls_topPlace_e n fp
  refine lv_aload_n hx hb d_Calls_topPlace_0 rfl (lv_at hl 0 rfl) ?_
  refine va_get (D := D) (v := .int n) (C := "ColonMachine$Calls") (T := T_Calls) (N := 5) hx hb hT i_Calls hown hK hP 0 rfl rfl 4 (by decide) (hT _ fl_Calls_24) (fun _ h9 => h9) rfl d_Calls_topPlace_1 ?_
  refine lv_if_le (tgt := 21) hx hb d_Calls_topPlace_4 (by decide) (fun c1 => ?_) (fun c1 => ?_)
  · have hF := hF.trans (if_pos c1)
    refine lv_iconst (v := 0) hx hb d_Calls_topPlace_21 (by decide) ?_
    exact W.iret (v := 0) hx hb hr (fun t ht hW => ⟨⟨_, (), rfl, ⟨hF.symm, trivial⟩, ⟨by rw [ht]; exact hP, va_K.moved hW.alike hK, hD⟩⟩, hS.F ht⟩) hS.2.2 d_Calls_topPlace_22
  · have hF := hF.trans (if_neg c1)
    refine lv_aload_n hx hb d_Calls_topPlace_7 rfl (lv_at hl 0 rfl) ?_
    refine va_get (D := D) (v := .ref ap) (C := "ColonMachine$Calls") (T := T_Calls) (N := 5) hx hb hT i_Calls hown hK hP 0 rfl rfl 1 (by decide) (hT _ fl_Calls_15) (fun _ h9 => h9) rfl d_Calls_topPlace_8 ?_
    refine lv_aload_n hx hb d_Calls_topPlace_11 rfl (lv_at hl 0 rfl) ?_
    refine va_get (D := D) (v := .int n) (C := "ColonMachine$Calls") (T := T_Calls) (N := 5) hx hb hT i_Calls hown hK hP 0 rfl rfl 4 (by decide) (hT _ fl_Calls_24) (fun _ h9 => h9) rfl d_Calls_topPlace_12 ?_
    refine lv_iconst (v := 1) hx hb d_Calls_topPlace_15 (by decide) ?_
    refine lv_isub hx hb d_Calls_topPlace_16 ?_
    refine va_iald hx hb hK hP 1 0 rfl rfl (by have := ti_lo n; have := ti_hi n; have t1 : Int32.toInt 1 = 1 := rfl; have t40 : Int32.toInt 40 = 40 := rfl; have t0 : Int32.toInt 0 = 0 := rfl; rw [vp_in_iff]; (try simp only [true_or, or_true, true_and, and_true, z_tn, CellsOk, CallsOk, TextOk, MemOk, OutOk, Int32.lt_iff_toInt_lt, Int32.le_iff_toInt_le, ← Int32.toInt_inj, Int32.toInt_add, Int32.toInt_sub, Int32.toInt_mul, Int32.toInt_neg, zbm, zbm', t1, t40, t0] at c1 hi ⊢) <;> omega) d_Calls_topPlace_17 ?_
    refine lv_goto (tgt := 22) hx hb d_Calls_topPlace_18 (by decide) ?_
    exact W.iret (v := fp (n - 1).toNatClampNeg) hx hb hr (fun t ht hW => ⟨⟨_, (), rfl, ⟨hF.symm, trivial⟩, ⟨by rw [ht]; exact hP, va_K.moved hW.alike hK, hD⟩⟩, hS.F ht⟩) hS.2.2 d_Calls_topPlace_22
/-- the picture of ColonMachine$Calls.goTo -/
def F_Calls_goTo (n : Int32) (fp : Nat → Int32) (x1 : Int32) : (Nat → Int32) := if n ≤ 0 then fp else (upd fp (n - 1).toNatClampNeg x1)
theorem F_Calls_goTo_e (n : Int32) (fp : Nat → Int32) (x1 : Int32) : F_Calls_goTo n fp x1 = if n ≤ 0 then fp else (upd fp (n - 1).toNatClampNeg x1) := rfl
set_option maxHeartbeats 4000000 in
set_option maxRecDepth 100000 in
theorem c_Calls_goTo (l : Launch) (D : va_G) (cI cJ cZ cW cT : ClassId) (sz : Nat) (h : Nat) (ao : Nat) (ap : Nat) (ar : Nat) (ad : Nat) (n : Int32) (fp : Nat → Int32) (x1 : Int32) (hi : CallsOk n) : Met l y_Calls_goTo w_Calls_goTo ({ frames := 0, cells := 0, slots := 0, locals := 0 }) (va_Pc [.ref h, .int x1] (zP D classes (TY cI cJ cZ cW cT) [(h, .inr (0, [.ref ao, .ref ap, .ref ar, .ref ad, .int n])), (ap, .inl (cI, 40, .inl fp))] sz)) (va_Qv (fun u : (Nat → Int32) => u = F_Calls_goTo n fp x1 ∧ (True)) (fun u => zB D classes (TY cI cJ cZ cW cT) (va_A [(h, .inr (0, [.ref ao, .ref ap, .ref ar, .ref ad, .int n])), (ap, .inl (cI, 40, .inl fp))] sz) [(h, .inr (0, [.ref ao, .ref ap, .ref ar, .ref ad, .int n])), (ap, .inl (cI, 40, .inl u))]) (va_A [(h, .inr (0, [.ref ao, .ref ap, .ref ar, .ref ad, .int n])), (ap, .inl (cI, 40, .inl fp))] sz)) 0 0 (va_A [(h, .inr (0, [.ref ao, .ref ap, .ref ar, .ref ad, .int n])), (ap, .inl (cI, 40, .inl fp))] sz) := by
  refine Met.ofW (cc := b_Calls_goTo) (maxL := 2) (ret := none) (by decide) rfl ?_
  intro p e s m args below meth c s₁ B hml hv
  obtain ⟨rfl, hsz, hP, hK, hD0, hE⟩ := hv
  have hx := B.exec
  have hb := B.bytes
  have hr := B.returns
  have hts := atoms_spec (ws := w_Calls_goTo) B.pre
  have hT : ∀ w ∈ TB, w.before _ s = true := fun w h => hts w (List.mem_cons_of_mem _ h)
  have hown : s.vm.findClass "ColonMachine$Calls" = some m.cls := findClass_of_methodNamed B.named
  have hlocks := B.notSynchronized
  subst hsz
  have hD := hD0.self (sz := s.heap.size)
  generalize hAe : va_A [(h, .inr (0, [.ref ao, .ref ap, .ref ar, .ref ad, .int n])), (ap, .inl (cI, 40, .inl fp))] s.heap.size = A at hD hE ⊢
  have hA : ∀ q : Nat, s.heap.size ≤ q → A q := fun q h => by rw [← hAe]; exact Or.inr h
  have hS : va_S A s.heap s.heap [] := va_S.rf
  have hl := lv_entry [.ref h, .int x1] (n := 2) (Nat.le_of_ble_eq_true rfl)
  rw [lg_entry_eq]
  generalize (lg_sl [.ref h, .int x1] ++ List.replicate (2 - (lg_sl [.ref h, .int x1]).length) Slot.unset).toArray = ls at hl ⊢
  have hl : lv_has ls 2 [(0, .ref h), (1, .int x1)] := hl
  have hF := F_Calls_goTo_e n fp x1
  refine lv_aload_n hx hb d_Calls_goTo_0 rfl (lv_at hl 0 rfl) ?_
  refine va_get (D := D) (v := .int n) (C := "ColonMachine$Calls") (T := T_Calls) (N := 5) hx hb hT i_Calls hown hK hP 0 rfl rfl 4 (by decide) (hT _ fl_Calls_24) (fun _ h9 => h9) rfl d_Calls_goTo_1 ?_
  refine lv_if_le (tgt := 19) hx hb d_Calls_goTo_4 (by decide) (fun c1 => ?_) (fun c1 => ?_)
  · have hF := hF.trans (if_pos c1)
    exact W.vret hx hb hr (fun t ht hW => ⟨⟨_, rfl, ⟨hF.symm, trivial⟩, ⟨by rw [ht]; exact hP, va_K.moved hW.alike hK, hD⟩⟩, hS.F ht⟩) hS.2.2 d_Calls_goTo_19
  · have hF := hF.trans (if_neg c1)
    refine lv_aload_n hx hb d_Calls_goTo_7 rfl (lv_at hl 0 rfl) ?_
    refine va_get (D := D) (v := .ref ap) (C := "ColonMachine$Calls") (T := T_Calls) (N := 5) hx hb hT i_Calls hown hK hP 0 rfl rfl 1 (by decide) (hT _ fl_Calls_15) (fun _ h9 => h9) rfl d_Calls_goTo_8 ?_
    refine lv_aload_n hx hb d_Calls_goTo_11 rfl (lv_at hl 0 rfl) ?_
    refine va_get (D := D) (v := .int n) (C := "ColonMachine$Calls") (T := T_Calls) (N := 5) hx hb hT i_Calls hown hK hP 0 rfl rfl 4 (by decide) (hT _ fl_Calls_24) (fun _ h9 => h9) rfl d_Calls_goTo_12 ?_
    refine lv_iconst (v := 1) hx hb d_Calls_goTo_15 (by decide) ?_
    refine lv_isub hx hb d_Calls_goTo_16 ?_
    refine lv_iload_n hx hb d_Calls_goTo_17 rfl (lv_at hl 1 rfl) ?_
    refine va_iast hx hb hK hP hD hS 1 0 rfl rfl (by have := ti_lo n; have := ti_hi n; have t1 : Int32.toInt 1 = 1 := rfl; have t40 : Int32.toInt 40 = 40 := rfl; have t0 : Int32.toInt 0 = 0 := rfl; rw [vp_in_iff]; (try simp only [true_or, or_true, true_and, and_true, z_tn, CellsOk, CallsOk, TextOk, MemOk, OutOk, Int32.lt_iff_toInt_lt, Int32.le_iff_toInt_le, ← Int32.toInt_inj, Int32.toInt_add, Int32.toInt_sub, Int32.toInt_mul, Int32.toInt_neg, zbm, zbm', t1, t40, t0] at c1 hi ⊢) <;> omega) d_Calls_goTo_18 (fun H locs hP hD hS => ?_)
    have hP : va_P D classes [(h, .inr (0, [.ref ao, .ref ap, .ref ar, .ref ad, .int n])), (ap, .inl (cI, 40, .inl (upd fp (n - 1).toNatClampNeg x1)))] H := hP
    have hD : va_D A [(h, .inr (0, [.ref ao, .ref ap, .ref ar, .ref ad, .int n])), (ap, .inl (cI, 40, .inl (upd fp (n - 1).toNatClampNeg x1)))] := hD
    exact W.vret hx hb hr (fun t ht hW => ⟨⟨_, rfl, ⟨hF.symm, trivial⟩, ⟨by rw [ht]; exact hP, va_K.moved hW.alike hK, hD⟩⟩, hS.F ht⟩) hS.2.2 d_Calls_goTo_19
/-- the picture of ColonMachine$Calls.ownReturns -/
def F_Calls_ownReturns (n : Int32) (fr : Nat → Int32) (x1 : Int32) : Int32 := if n ≤ 0 then 0 else (x1 - (fr (n - 1).toNatClampNeg))
theorem F_Calls_ownReturns_e (n : Int32) (fr : Nat → Int32) (x1 : Int32) : F_Calls_ownReturns n fr x1 = if n ≤ 0 then 0 else (x1 - (fr (n - 1).toNatClampNeg)) := rfl
set_option maxHeartbeats 4000000 in
set_option maxRecDepth 100000 in
theorem c_Calls_ownReturns (l : Launch) (D : va_G) (cI cJ cZ cW cT : ClassId) (sz : Nat) (h : Nat) (ao : Nat) (ap : Nat) (ar : Nat) (ad : Nat) (n : Int32) (fr : Nat → Int32) (x1 : Int32) (hi : CallsOk n) : Met l y_Calls_ownReturns w_Calls_ownReturns ({ frames := 0, cells := 0, slots := 0, locals := 0 }) (va_Pc [.ref h, .int x1] (zP D classes (TY cI cJ cZ cW cT) [(h, .inr (0, [.ref ao, .ref ap, .ref ar, .ref ad, .int n])), (ar, .inl (cI, 40, .inl fr))] sz)) (va_Qi (fun (r : Int32) (_ : Unit) => r = F_Calls_ownReturns n fr x1 ∧ (True)) (fun _ => zB D classes (TY cI cJ cZ cW cT) (va_A [(h, .inr (0, [.ref ao, .ref ap, .ref ar, .ref ad, .int n])), (ar, .inl (cI, 40, .inl fr))] sz) [(h, .inr (0, [.ref ao, .ref ap, .ref ar, .ref ad, .int n])), (ar, .inl (cI, 40, .inl fr))]) (va_A [(h, .inr (0, [.ref ao, .ref ap, .ref ar, .ref ad, .int n])), (ar, .inl (cI, 40, .inl fr))] sz)) 0 0 (va_A [(h, .inr (0, [.ref ao, .ref ap, .ref ar, .ref ad, .int n])), (ar, .inl (cI, 40, .inl fr))] sz) := by
  refine Met.ofW (cc := b_Calls_ownReturns) (maxL := 2) (ret := (some .int)) (by decide) rfl ?_
  intro p e s m args below meth c s₁ B hml hv
  obtain ⟨rfl, hsz, hP, hK, hD0, hE⟩ := hv
  have hx := B.exec
  have hb := B.bytes
  have hr := B.returns
  have hts := atoms_spec (ws := w_Calls_ownReturns) B.pre
  have hT : ∀ w ∈ TB, w.before _ s = true := fun w h => hts w (List.mem_cons_of_mem _ h)
  have hown : s.vm.findClass "ColonMachine$Calls" = some m.cls := findClass_of_methodNamed B.named
  have hlocks := B.notSynchronized
  subst hsz
  have hD := hD0.self (sz := s.heap.size)
  generalize hAe : va_A [(h, .inr (0, [.ref ao, .ref ap, .ref ar, .ref ad, .int n])), (ar, .inl (cI, 40, .inl fr))] s.heap.size = A at hD hE ⊢
  have hA : ∀ q : Nat, s.heap.size ≤ q → A q := fun q h => by rw [← hAe]; exact Or.inr h
  have hS : va_S A s.heap s.heap [] := va_S.rf
  have hl := lv_entry [.ref h, .int x1] (n := 2) (Nat.le_of_ble_eq_true rfl)
  rw [lg_entry_eq]
  generalize (lg_sl [.ref h, .int x1] ++ List.replicate (2 - (lg_sl [.ref h, .int x1]).length) Slot.unset).toArray = ls at hl ⊢
  have hl : lv_has ls 2 [(0, .ref h), (1, .int x1)] := hl
  have hF := F_Calls_ownReturns_e n fr x1
  refine lv_aload_n hx hb d_Calls_ownReturns_0 rfl (lv_at hl 0 rfl) ?_
  refine va_get (D := D) (v := .int n) (C := "ColonMachine$Calls") (T := T_Calls) (N := 5) hx hb hT i_Calls hown hK hP 0 rfl rfl 4 (by decide) (hT _ fl_Calls_24) (fun _ h9 => h9) rfl d_Calls_ownReturns_1 ?_
  refine lv_if_le (tgt := 23) hx hb d_Calls_ownReturns_4 (by decide) (fun c1 => ?_) (fun c1 => ?_)
  · have hF := hF.trans (if_pos c1)
    refine lv_iconst (v := 0) hx hb d_Calls_ownReturns_23 (by decide) ?_
    exact W.iret (v := 0) hx hb hr (fun t ht hW => ⟨⟨_, (), rfl, ⟨hF.symm, trivial⟩, ⟨by rw [ht]; exact hP, va_K.moved hW.alike hK, hD⟩⟩, hS.F ht⟩) hS.2.2 d_Calls_ownReturns_24
  · have hF := hF.trans (if_neg c1)
    refine lv_iload_n hx hb d_Calls_ownReturns_7 rfl (lv_at hl 1 rfl) ?_
    refine lv_aload_n hx hb d_Calls_ownReturns_8 rfl (lv_at hl 0 rfl) ?_
    refine va_get (D := D) (v := .ref ar) (C := "ColonMachine$Calls") (T := T_Calls) (N := 5) hx hb hT i_Calls hown hK hP 0 rfl rfl 2 (by decide) (hT _ fl_Calls_18) (fun _ h9 => h9) rfl d_Calls_ownReturns_9 ?_
    refine lv_aload_n hx hb d_Calls_ownReturns_12 rfl (lv_at hl 0 rfl) ?_
    refine va_get (D := D) (v := .int n) (C := "ColonMachine$Calls") (T := T_Calls) (N := 5) hx hb hT i_Calls hown hK hP 0 rfl rfl 4 (by decide) (hT _ fl_Calls_24) (fun _ h9 => h9) rfl d_Calls_ownReturns_13 ?_
    refine lv_iconst (v := 1) hx hb d_Calls_ownReturns_16 (by decide) ?_
    refine lv_isub hx hb d_Calls_ownReturns_17 ?_
    refine va_iald hx hb hK hP 1 0 rfl rfl (by have := ti_lo n; have := ti_hi n; have t1 : Int32.toInt 1 = 1 := rfl; have t40 : Int32.toInt 40 = 40 := rfl; have t0 : Int32.toInt 0 = 0 := rfl; rw [vp_in_iff]; (try simp only [true_or, or_true, true_and, and_true, z_tn, CellsOk, CallsOk, TextOk, MemOk, OutOk, Int32.lt_iff_toInt_lt, Int32.le_iff_toInt_le, ← Int32.toInt_inj, Int32.toInt_add, Int32.toInt_sub, Int32.toInt_mul, Int32.toInt_neg, zbm, zbm', t1, t40, t0] at c1 hi ⊢) <;> omega) d_Calls_ownReturns_18 ?_
    refine lv_isub hx hb d_Calls_ownReturns_19 ?_
    refine lv_goto (tgt := 24) hx hb d_Calls_ownReturns_20 (by decide) ?_
    exact W.iret (v := x1 - (fr (n - 1).toNatClampNeg)) hx hb hr (fun t ht hW => ⟨⟨_, (), rfl, ⟨hF.symm, trivial⟩, ⟨by rw [ht]; exact hP, va_K.moved hW.alike hK, hD⟩⟩, hS.F ht⟩) hS.2.2 d_Calls_ownReturns_24
def F_Calls_holdBodyFrom_L2 (n : Int32) (fo : Nat → Int32) (x1 : Int32) : Nat → (Int32) → Int32
  | 0, _ => 0
  | k2 + 1, v2 => if n ≤ v2 then 0 else (if (fo v2.toNatClampNeg) < x1 then (F_Calls_holdBodyFrom_L2 n fo x1 k2 (v2 + 1)) else 1)
theorem F_Calls_holdBodyFrom_L2_s (n : Int32) (fo : Nat → Int32) (x1 : Int32) (k2 : Nat) (v2 : Int32) : F_Calls_holdBodyFrom_L2 n fo x1 (k2 + 1) v2 = if n ≤ v2 then 0 else (if (fo v2.toNatClampNeg) < x1 then (F_Calls_holdBodyFrom_L2 n fo x1 k2 (v2 + 1)) else 1) := rfl
/-- the picture of ColonMachine$Calls.holdBodyFrom -/
def F_Calls_holdBodyFrom (n : Int32) (fo : Nat → Int32) (x1 : Int32) : Int32 := F_Calls_holdBodyFrom_L2 n fo x1 (((n.toInt - (0 : Int32).toInt).toNat) + 1) 0
theorem F_Calls_holdBodyFrom_e (n : Int32) (fo : Nat → Int32) (x1 : Int32) : F_Calls_holdBodyFrom n fo x1 = F_Calls_holdBodyFrom_L2 n fo x1 (((n.toInt - (0 : Int32).toInt).toNat) + 1) 0 := rfl
set_option maxHeartbeats 4000000 in
set_option maxRecDepth 100000 in
theorem c_Calls_holdBodyFrom (l : Launch) (D : va_G) (cI cJ cZ cW cT : ClassId) (sz : Nat) (h : Nat) (ao : Nat) (ap : Nat) (ar : Nat) (ad : Nat) (n : Int32) (fo : Nat → Int32) (x1 : Int32) (hi : CallsOk n) : Met l y_Calls_holdBodyFrom w_Calls_holdBodyFrom ({ frames := 0, cells := 0, slots := 0, locals := 0 }) (va_Pc [.ref h, .int x1] (zP D classes (TY cI cJ cZ cW cT) [(h, .inr (0, [.ref ao, .ref ap, .ref ar, .ref ad, .int n])), (ao, .inl (cI, 40, .inl fo))] sz)) (va_Qi (fun (r : Int32) (_ : Unit) => r = F_Calls_holdBodyFrom n fo x1 ∧ ((r = 0 ∨ r = 1))) (fun _ => zB D classes (TY cI cJ cZ cW cT) (va_A [(h, .inr (0, [.ref ao, .ref ap, .ref ar, .ref ad, .int n])), (ao, .inl (cI, 40, .inl fo))] sz) [(h, .inr (0, [.ref ao, .ref ap, .ref ar, .ref ad, .int n])), (ao, .inl (cI, 40, .inl fo))]) (va_A [(h, .inr (0, [.ref ao, .ref ap, .ref ar, .ref ad, .int n])), (ao, .inl (cI, 40, .inl fo))] sz)) 0 0 (va_A [(h, .inr (0, [.ref ao, .ref ap, .ref ar, .ref ad, .int n])), (ao, .inl (cI, 40, .inl fo))] sz) := by
  refine Met.ofW (cc := b_Calls_holdBodyFrom) (maxL := 3) (ret := (some .boolean)) (by decide) rfl ?_
  intro p e s m args below meth c s₁ B hml hv
  obtain ⟨rfl, hsz, hP, hK, hD0, hE⟩ := hv
  have hx := B.exec
  have hb := B.bytes
  have hr := B.returns
  have hts := atoms_spec (ws := w_Calls_holdBodyFrom) B.pre
  have hT : ∀ w ∈ TB, w.before _ s = true := fun w h => hts w (List.mem_cons_of_mem _ h)
  have hown : s.vm.findClass "ColonMachine$Calls" = some m.cls := findClass_of_methodNamed B.named
  have hlocks := B.notSynchronized
  subst hsz
  have hD := hD0.self (sz := s.heap.size)
  generalize hAe : va_A [(h, .inr (0, [.ref ao, .ref ap, .ref ar, .ref ad, .int n])), (ao, .inl (cI, 40, .inl fo))] s.heap.size = A at hD hE ⊢
  have hA : ∀ q : Nat, s.heap.size ≤ q → A q := fun q h => by rw [← hAe]; exact Or.inr h
  have hS : va_S A s.heap s.heap [] := va_S.rf
  have hl := lv_entry [.ref h, .int x1] (n := 3) (Nat.le_of_ble_eq_true rfl)
  rw [lg_entry_eq]
  generalize (lg_sl [.ref h, .int x1] ++ List.replicate (3 - (lg_sl [.ref h, .int x1]).length) Slot.unset).toArray = ls at hl ⊢
  have hl : lv_has ls 3 [(0, .ref h), (1, .int x1)] := hl
  have hF := F_Calls_holdBodyFrom_e n fo x1
  refine lv_iconst (v := 0) hx hb d_Calls_holdBodyFrom_0 (by decide) ?_
  refine lv_istore_n (lv' := [(2, .int 0), (0, .ref h), (1, .int x1)]) hx hb d_Calls_holdBodyFrom_1 rfl hl (by decide) rfl (fun ls hl => ?_)
  have loop : ∀ (k2 : Nat) (v2 : Int32) (hk : (n.toInt - v2.toInt).toNat < k2) (hw : 0 ≤ v2.toInt) (H : Heap) (locs : List Loc) (ls : Array Slot) (hP : va_P D classes [(h, .inr (0, [.ref ao, .ref ap, .ref ar, .ref ad, .int n])), (ao, .inl (cI, 40, .inl fo))] H) (hD : va_D A [(h, .inr (0, [.ref ao, .ref ap, .ref ar, .ref ad, .int n])), (ao, .inl (cI, 40, .inl fo))]) (hS : va_S A s.heap H locs) (hl : lv_has ls 3 [(2, .int v2), (0, .ref h), (1, .int x1)]) (hF : F_Calls_holdBodyFrom n fo x1 = F_Calls_holdBodyFrom_L2 n fo x1 k2 v2), W p l e (headSpec w_Calls_holdBodyFrom ({ frames := 0, cells := 0, slots := 0, locals := 0 })).room s m (List.toArray [.ref h, .int x1]) below meth c H locs 0 0 (MQ below (va_Qi (fun (r : Int32) (_ : Unit) => r = F_Calls_holdBodyFrom n fo x1 ∧ ((r = 0 ∨ r = 1))) (fun _ => zB D classes (TY cI cJ cZ cW cT) A [(h, .inr (0, [.ref ao, .ref ap, .ref ar, .ref ad, .int n])), (ao, .inl (cI, 40, .inl fo))]) A) (List.toArray [.ref h, .int x1]) s 0 0 A) (F0 m 2 ls []) := by
    intro k2
    induction k2 with
    | zero => intro v2 hk; exact absurd hk (Nat.not_lt_zero _)
    | succ k2 ih =>
      intro v2 hk hw H locs ls hP hD hS hl hF
      have hF := hF.trans (F_Calls_holdBodyFrom_L2_s n fo x1 k2 v2)
      refine lv_iload_n hx hb d_Calls_holdBodyFrom_2 rfl (lv_at hl 0 rfl) ?_
      refine lv_aload_n hx hb d_Calls_holdBodyFrom_3 rfl (lv_at hl 1 rfl) ?_
      refine va_get (D := D) (v := .int n) (C := "ColonMachine$Calls") (T := T_Calls) (N := 5) hx hb hT i_Calls hown hK hP 0 rfl rfl 4 (by decide) (hT _ fl_Calls_24) (fun _ h9 => h9) rfl d_Calls_holdBodyFrom_4 ?_
      refine lv_icmp_ge (tgt := 28) hx hb d_Calls_holdBodyFrom_7 (by decide) (fun c1 => ?_) (fun c1 => ?_)
      · have hF := hF.trans (if_pos c1)
        refine lv_iconst (v := 0) hx hb d_Calls_holdBodyFrom_28 (by decide) ?_
        exact W.zret (v := 0) hx hb hr rfl (fun t ht hW => ⟨⟨_, (), rfl, ⟨hF.symm, (Or.inl rfl)⟩, ⟨by rw [ht]; exact hP, va_K.moved hW.alike hK, hD⟩⟩, hS.F ht⟩) hS.2.2 d_Calls_holdBodyFrom_29
      · have hF := hF.trans (if_neg c1)
        refine lv_aload_n hx hb d_Calls_holdBodyFrom_10 rfl (lv_at hl 1 rfl) ?_
        refine va_get (D := D) (v := .ref ao) (C := "ColonMachine$Calls") (T := T_Calls) (N := 5) hx hb hT i_Calls hown hK hP 0 rfl rfl 0 (by decide) (hT _ fl_Calls_11) (fun _ h9 => h9) rfl d_Calls_holdBodyFrom_11 ?_
        refine lv_iload_n hx hb d_Calls_holdBodyFrom_14 rfl (lv_at hl 0 rfl) ?_
        refine va_iald hx hb hK hP 1 0 rfl rfl (by have := ti_lo v2; have := ti_hi v2; have := ti_lo n; have := ti_hi n; have t40 : Int32.toInt 40 = 40 := rfl; have t0 : Int32.toInt 0 = 0 := rfl; rw [vp_in_iff]; (try simp only [true_or, or_true, true_and, and_true, z_tn, CellsOk, CallsOk, TextOk, MemOk, OutOk, Int32.lt_iff_toInt_lt, Int32.le_iff_toInt_le, ← Int32.toInt_inj, Int32.toInt_add, Int32.toInt_sub, Int32.toInt_mul, Int32.toInt_neg, zbm, zbm', t40, t0] at c1 hi hw ⊢) <;> omega) d_Calls_holdBodyFrom_15 ?_
        refine lv_iload_n hx hb d_Calls_holdBodyFrom_16 rfl (lv_at hl 2 rfl) ?_
        refine lv_icmp_lt (tgt := 22) hx hb d_Calls_holdBodyFrom_17 (by decide) (fun c2 => ?_) (fun c2 => ?_)
        · have hF := hF.trans (if_pos c2)
          refine lv_iinc (v := v2 + 1) (lv' := [(2, .int (v2 + 1)), (0, .ref h), (1, .int x1)]) hx hb d_Calls_holdBodyFrom_22 hl (k := 0) rfl rfl (by decide) rfl (fun ls hl => ?_)
          refine lv_goto (tgt := 2) hx hb d_Calls_holdBodyFrom_25 (by decide) ?_
          exact ih (v2 + 1) (by have := ti_lo v2; have := ti_hi v2; have := ti_lo n; have := ti_hi n; have := ti_lo x1; have := ti_hi x1; have t1 : Int32.toInt 1 = 1 := rfl; have t0 : Int32.toInt 0 = 0 := rfl; (try simp only [true_or, or_true, true_and, and_true, z_tn, CellsOk, CallsOk, TextOk, MemOk, OutOk, Int32.lt_iff_toInt_lt, Int32.le_iff_toInt_le, ← Int32.toInt_inj, Int32.toInt_add, Int32.toInt_sub, Int32.toInt_mul, Int32.toInt_neg, zbm, zbm', t1, t0] at c1 c2 hi hw hk ⊢) <;> omega) (by have := ti_lo v2; have := ti_hi v2; have := ti_lo n; have := ti_hi n; have := ti_lo x1; have := ti_hi x1; have t0 : Int32.toInt 0 = 0 := rfl; have t1 : Int32.toInt 1 = 1 := rfl; (try simp only [true_or, or_true, true_and, and_true, z_tn, CellsOk, CallsOk, TextOk, MemOk, OutOk, Int32.lt_iff_toInt_lt, Int32.le_iff_toInt_le, ← Int32.toInt_inj, Int32.toInt_add, Int32.toInt_sub, Int32.toInt_mul, Int32.toInt_neg, zbm, zbm', t0, t1] at c1 c2 hi hw ⊢) <;> omega) _ _ _ hP hD hS (lv_sub hl [0, 1, 2] rfl) hF
        · have hF := hF.trans (if_neg c2)
          refine lv_iconst (v := 1) hx hb d_Calls_holdBodyFrom_20 (by decide) ?_
          exact W.zret (v := 1) hx hb hr rfl (fun t ht hW => ⟨⟨_, (), rfl, ⟨hF.symm, (Or.inr rfl)⟩, ⟨by rw [ht]; exact hP, va_K.moved hW.alike hK, hD⟩⟩, hS.F ht⟩) hS.2.2 d_Calls_holdBodyFrom_21
  exact loop (((n.toInt - (0 : Int32).toInt).toNat) + 1) 0 (Nat.lt_succ_self _) (by have := ti_lo n; have := ti_hi n; have t0 : Int32.toInt 0 = 0 := rfl; (try simp only [true_or, or_true, true_and, and_true, z_tn, CellsOk, CallsOk, TextOk, MemOk, OutOk, Int32.lt_iff_toInt_lt, Int32.le_iff_toInt_le, ← Int32.toInt_inj, Int32.toInt_add, Int32.toInt_sub, Int32.toInt_mul, Int32.toInt_neg, zbm, zbm', t0] at hi ⊢) <;> omega) _ _ _ hP hD hS (lv_sub hl [0, 1, 2] rfl) hF
def F_Calls_latestCatch_L7 (fo : Nat → Int32) : Nat → (Int32) → Int32
  | 0, _ => 0
  | k7 + 1, v1 => if v1 < 0 then (-1) else (if (fo v1.toNatClampNeg) = (-1) then v1 else (F_Calls_latestCatch_L7 fo k7 (v1 + (-1))))
theorem F_Calls_latestCatch_L7_s (fo : Nat → Int32) (k7 : Nat) (v1 : Int32) : F_Calls_latestCatch_L7 fo (k7 + 1) v1 = if v1 < 0 then (-1) else (if (fo v1.toNatClampNeg) = (-1) then v1 else (F_Calls_latestCatch_L7 fo k7 (v1 + (-1)))) := rfl
/-- the picture of ColonMachine$Calls.latestCatch -/
def F_Calls_latestCatch (n : Int32) (fo : Nat → Int32) : Int32 := F_Calls_latestCatch_L7 fo ((((n - 1).toInt + 1).toNat) + 1) (n - 1)
theorem F_Calls_latestCatch_e (n : Int32) (fo : Nat → Int32) : F_Calls_latestCatch n fo = F_Calls_latestCatch_L7 fo ((((n - 1).toInt + 1).toNat) + 1) (n - 1) := rfl
set_option maxHeartbeats 4000000 in
set_option maxRecDepth 100000 in
theorem c_Calls_latestCatch (l : Launch) (D : va_G) (cI cJ cZ cW cT : ClassId) (sz : Nat) (h : Nat) (ao : Nat) (ap : Nat) (ar : Nat) (ad : Nat) (n : Int32) (fo : Nat → Int32) (hi : CallsOk n) : Met l y_Calls_latestCatch w_Calls_latestCatch ({ frames := 0, cells := 0, slots := 0, locals := 0 }) (va_Pc [.ref h] (zP D classes (TY cI cJ cZ cW cT) [(h, .inr (0, [.ref ao, .ref ap, .ref ar, .ref ad, .int n])), (ao, .inl (cI, 40, .inl fo))] sz)) (va_Qi (fun (r : Int32) (_ : Unit) => r = F_Calls_latestCatch n fo ∧ (True)) (fun _ => zB D classes (TY cI cJ cZ cW cT) (va_A [(h, .inr (0, [.ref ao, .ref ap, .ref ar, .ref ad, .int n])), (ao, .inl (cI, 40, .inl fo))] sz) [(h, .inr (0, [.ref ao, .ref ap, .ref ar, .ref ad, .int n])), (ao, .inl (cI, 40, .inl fo))]) (va_A [(h, .inr (0, [.ref ao, .ref ap, .ref ar, .ref ad, .int n])), (ao, .inl (cI, 40, .inl fo))] sz)) 0 0 (va_A [(h, .inr (0, [.ref ao, .ref ap, .ref ar, .ref ad, .int n])), (ao, .inl (cI, 40, .inl fo))] sz) := by
  refine Met.ofW (cc := b_Calls_latestCatch) (maxL := 2) (ret := (some .int)) (by decide) rfl ?_
  intro p e s m args below meth c s₁ B hml hv
  obtain ⟨rfl, hsz, hP, hK, hD0, hE⟩ := hv
  have hx := B.exec
  have hb := B.bytes
  have hr := B.returns
  have hts := atoms_spec (ws := w_Calls_latestCatch) B.pre
  have hT : ∀ w ∈ TB, w.before _ s = true := fun w h => hts w (List.mem_cons_of_mem _ h)
  have hown : s.vm.findClass "ColonMachine$Calls" = some m.cls := findClass_of_methodNamed B.named
  have hlocks := B.notSynchronized
  subst hsz
  have hD := hD0.self (sz := s.heap.size)
  generalize hAe : va_A [(h, .inr (0, [.ref ao, .ref ap, .ref ar, .ref ad, .int n])), (ao, .inl (cI, 40, .inl fo))] s.heap.size = A at hD hE ⊢
  have hA : ∀ q : Nat, s.heap.size ≤ q → A q := fun q h => by rw [← hAe]; exact Or.inr h
  have hS : va_S A s.heap s.heap [] := va_S.rf
  have hl := lv_entry [.ref h] (n := 2) (Nat.le_of_ble_eq_true rfl)
  rw [lg_entry_eq]
  generalize (lg_sl [.ref h] ++ List.replicate (2 - (lg_sl [.ref h]).length) Slot.unset).toArray = ls at hl ⊢
  have hl : lv_has ls 2 [(0, .ref h)] := hl
  have hF := F_Calls_latestCatch_e n fo
  refine lv_aload_n hx hb d_Calls_latestCatch_0 rfl (lv_at hl 0 rfl) ?_
  refine va_get (D := D) (v := .int n) (C := "ColonMachine$Calls") (T := T_Calls) (N := 5) hx hb hT i_Calls hown hK hP 0 rfl rfl 4 (by decide) (hT _ fl_Calls_24) (fun _ h9 => h9) rfl d_Calls_latestCatch_1 ?_
  refine lv_iconst (v := 1) hx hb d_Calls_latestCatch_4 (by decide) ?_
  refine lv_isub hx hb d_Calls_latestCatch_5 ?_
  refine lv_istore_n (lv' := [(1, .int (n - 1)), (0, .ref h)]) hx hb d_Calls_latestCatch_6 rfl hl (by decide) rfl (fun ls hl => ?_)
  have loop : ∀ (k7 : Nat) (v1 : Int32) (hk : (v1.toInt + 1).toNat < k7) (hw : v1.toInt < n.toInt) (hw2 : -1 ≤ v1.toInt) (H : Heap) (locs : List Loc) (ls : Array Slot) (hP : va_P D classes [(h, .inr (0, [.ref ao, .ref ap, .ref ar, .ref ad, .int n])), (ao, .inl (cI, 40, .inl fo))] H) (hD : va_D A [(h, .inr (0, [.ref ao, .ref ap, .ref ar, .ref ad, .int n])), (ao, .inl (cI, 40, .inl fo))]) (hS : va_S A s.heap H locs) (hl : lv_has ls 2 [(1, .int v1), (0, .ref h)]) (hF : F_Calls_latestCatch n fo = F_Calls_latestCatch_L7 fo k7 v1), W p l e (headSpec w_Calls_latestCatch ({ frames := 0, cells := 0, slots := 0, locals := 0 })).room s m (List.toArray [.ref h]) below meth c H locs 0 0 (MQ below (va_Qi (fun (r : Int32) (_ : Unit) => r = F_Calls_latestCatch n fo ∧ (True)) (fun _ => zB D classes (TY cI cJ cZ cW cT) A [(h, .inr (0, [.ref ao, .ref ap, .ref ar, .ref ad, .int n])), (ao, .inl (cI, 40, .inl fo))]) A) (List.toArray [.ref h]) s 0 0 A) (F0 m 7 ls []) := by
    intro k7
    induction k7 with
    | zero => intro v1 hk; exact absurd hk (Nat.not_lt_zero _)
    | succ k7 ih =>
      intro v1 hk hw hw2 H locs ls hP hD hS hl hF
      have hF := hF.trans (F_Calls_latestCatch_L7_s fo k7 v1)
      refine lv_iload_n hx hb d_Calls_latestCatch_7 rfl (lv_at hl 0 rfl) ?_
      refine lv_if_lt (tgt := 29) hx hb d_Calls_latestCatch_8 (by decide) (fun c1 => ?_) (fun c1 => ?_)
      · have hF := hF.trans (if_pos c1)
        refine lv_iconst (v := (-1)) hx hb d_Calls_latestCatch_29 (by decide) ?_
        exact W.iret (v := (-1)) hx hb hr (fun t ht hW => ⟨⟨_, (), rfl, ⟨hF.symm, trivial⟩, ⟨by rw [ht]; exact hP, va_K.moved hW.alike hK, hD⟩⟩, hS.F ht⟩) hS.2.2 d_Calls_latestCatch_30
      · have hF := hF.trans (if_neg c1)
        refine lv_aload_n hx hb d_Calls_latestCatch_11 rfl (lv_at hl 1 rfl) ?_
        refine va_get (D := D) (v := .ref ao) (C := "ColonMachine$Calls") (T := T_Calls) (N := 5) hx hb hT i_Calls hown hK hP 0 rfl rfl 0 (by decide) (hT _ fl_Calls_11) (fun _ h9 => h9) rfl d_Calls_latestCatch_12 ?_
        refine lv_iload_n hx hb d_Calls_latestCatch_15 rfl (lv_at hl 0 rfl) ?_
        refine va_iald hx hb hK hP 1 0 rfl rfl (by have := ti_lo v1; have := ti_hi v1; have := ti_lo n; have := ti_hi n; have t40 : Int32.toInt 40 = 40 := rfl; have tm1 : Int32.toInt (-1) = -1 := rfl; have t1 : Int32.toInt 1 = 1 := rfl; have t0 : Int32.toInt 0 = 0 := rfl; rw [vp_in_iff]; (try simp only [true_or, or_true, true_and, and_true, z_tn, CellsOk, CallsOk, TextOk, MemOk, OutOk, Int32.lt_iff_toInt_lt, Int32.le_iff_toInt_le, ← Int32.toInt_inj, Int32.toInt_add, Int32.toInt_sub, Int32.toInt_mul, Int32.toInt_neg, zbm, zbm', t40, tm1, t1, t0] at c1 hi hw hw2 ⊢) <;> omega) d_Calls_latestCatch_16 ?_
        refine lv_iconst (v := (-1)) hx hb d_Calls_latestCatch_17 (by decide) ?_
        refine lv_icmp_ne (tgt := 23) hx hb d_Calls_latestCatch_18 (by decide) (fun c2 => ?_) (fun c2 => ?_)
        · have hF := hF.trans (if_neg c2)
          refine lv_iinc (v := v1 + (-1)) (lv' := [(1, .int (v1 + (-1))), (0, .ref h)]) hx hb d_Calls_latestCatch_23 hl (k := 0) rfl rfl (by decide) rfl (fun ls hl => ?_)
          refine lv_goto (tgt := 7) hx hb d_Calls_latestCatch_26 (by decide) ?_
          exact ih (v1 + (-1)) (by have := ti_lo v1; have := ti_hi v1; have := ti_lo n; have := ti_hi n; have tm1 : Int32.toInt (-1) = -1 := rfl; have t1 : Int32.toInt 1 = 1 := rfl; have t0 : Int32.toInt 0 = 0 := rfl; (try simp only [true_or, or_true, true_and, and_true, z_tn, CellsOk, CallsOk, TextOk, MemOk, OutOk, Int32.lt_iff_toInt_lt, Int32.le_iff_toInt_le, ← Int32.toInt_inj, Int32.toInt_add, Int32.toInt_sub, Int32.toInt_mul, Int32.toInt_neg, zbm, zbm', tm1, t1, t0] at c1 c2 hi hw hw2 hk ⊢) <;> omega) (by have := ti_lo v1; have := ti_hi v1; have := ti_lo n; have := ti_hi n; have tm1 : Int32.toInt (-1) = -1 := rfl; have t1 : Int32.toInt 1 = 1 := rfl; have t0 : Int32.toInt 0 = 0 := rfl; (try simp only [true_or, or_true, true_and, and_true, z_tn, CellsOk, CallsOk, TextOk, MemOk, OutOk, Int32.lt_iff_toInt_lt, Int32.le_iff_toInt_le, ← Int32.toInt_inj, Int32.toInt_add, Int32.toInt_sub, Int32.toInt_mul, Int32.toInt_neg, zbm, zbm', tm1, t1, t0] at c1 c2 hi hw hw2 ⊢) <;> omega) (by have := ti_lo v1; have := ti_hi v1; have := ti_lo n; have := ti_hi n; have tm1 : Int32.toInt (-1) = -1 := rfl; have t1 : Int32.toInt 1 = 1 := rfl; have t0 : Int32.toInt 0 = 0 := rfl; (try simp only [true_or, or_true, true_and, and_true, z_tn, CellsOk, CallsOk, TextOk, MemOk, OutOk, Int32.lt_iff_toInt_lt, Int32.le_iff_toInt_le, ← Int32.toInt_inj, Int32.toInt_add, Int32.toInt_sub, Int32.toInt_mul, Int32.toInt_neg, zbm, zbm', tm1, t1, t0] at c1 c2 hi hw hw2 ⊢) <;> omega) _ _ _ hP hD hS (lv_sub hl [0, 1] rfl) hF
        · have hF := hF.trans (if_pos c2)
          refine lv_iload_n hx hb d_Calls_latestCatch_21 rfl (lv_at hl 0 rfl) ?_
          exact W.iret (v := v1) hx hb hr (fun t ht hW => ⟨⟨_, (), rfl, ⟨hF.symm, trivial⟩, ⟨by rw [ht]; exact hP, va_K.moved hW.alike hK, hD⟩⟩, hS.F ht⟩) hS.2.2 d_Calls_latestCatch_22
  exact loop ((((n - 1).toInt + 1).toNat) + 1) (n - 1) (Nat.lt_succ_self _) (by have := ti_lo n; have := ti_hi n; have t1 : Int32.toInt 1 = 1 := rfl; (try simp only [true_or, or_true, true_and, and_true, z_tn, CellsOk, CallsOk, TextOk, MemOk, OutOk, Int32.lt_iff_toInt_lt, Int32.le_iff_toInt_le, ← Int32.toInt_inj, Int32.toInt_add, Int32.toInt_sub, Int32.toInt_mul, Int32.toInt_neg, zbm, zbm', t1] at hi ⊢) <;> omega) (by have := ti_lo n; have := ti_hi n; have tm1 : Int32.toInt (-1) = -1 := rfl; have t1 : Int32.toInt 1 = 1 := rfl; (try simp only [true_or, or_true, true_and, and_true, z_tn, CellsOk, CallsOk, TextOk, MemOk, OutOk, Int32.lt_iff_toInt_lt, Int32.le_iff_toInt_le, ← Int32.toInt_inj, Int32.toInt_add, Int32.toInt_sub, Int32.toInt_mul, Int32.toInt_neg, zbm, zbm', tm1, t1] at hi ⊢) <;> omega) _ _ _ hP hD hS (lv_sub hl [0, 1] rfl) hF
/-- the picture of ColonMachine$Calls.returnsAt -/
def F_Calls_returnsAt (n : Int32) (fr : Nat → Int32) (x1 : Int32) : Int32 := if x1 < 0 then 0 else (if n ≤ x1 then 0 else (fr x1.toNatClampNeg))
theorem F_Calls_returnsAt_e (n : Int32) (fr : Nat → Int32) (x1 : Int32) : F_Calls_returnsAt n fr x1 = if x1 < 0 then 0 else (if n ≤ x1 then 0 else (fr x1.toNatClampNeg)) := rfl
set_option maxHeartbeats 4000000 in
set_option maxRecDepth 100000 in
theorem c_Calls_returnsAt (l : Launch) (D : va_G) (cI cJ cZ cW cT : ClassId) (sz : Nat) (h : Nat) (ao : Nat) (ap : Nat) (ar : Nat) (ad : Nat) (n : Int32) (fr : Nat → Int32) (x1 : Int32) (hi : CallsOk n) : Met l y_Calls_returnsAt w_Calls_returnsAt ({ frames := 0, cells := 0, slots := 0, locals := 0 }) (va_Pc [.ref h, .int x1] (zP D classes (TY cI cJ cZ cW cT) [(h, .inr (0, [.ref ao, .ref ap, .ref ar, .ref ad, .int n])), (ar, .inl (cI, 40, .inl fr))] sz)) (va_Qi (fun (r : Int32) (_ : Unit) => r = F_Calls_returnsAt n fr x1 ∧ (True)) (fun _ => zB D classes (TY cI cJ cZ cW cT) (va_A [(h, .inr (0, [.ref ao, .ref ap, .ref ar, .ref ad, .int n])), (ar, .inl (cI, 40, .inl fr))] sz) [(h, .inr (0, [.ref ao, .ref ap, .ref ar, .ref ad, .int n])), (ar, .inl (cI, 40, .inl fr))]) (va_A [(h, .inr (0, [.ref ao, .ref ap, .ref ar, .ref ad, .int n])), (ar, .inl (cI, 40, .inl fr))] sz)) 0 0 (va_A [(h, .inr (0, [.ref ao, .ref ap, .ref ar, .ref ad, .int n])), (ar, .inl (cI, 40, .inl fr))] sz) := by
  refine Met.ofW (cc := b_Calls_returnsAt) (maxL := 2) (ret := (some .int)) (by decide) rfl ?_
  intro p e s m args below meth c s₁ B hml hv
  obtain ⟨rfl, hsz, hP, hK, hD0, hE⟩ := hv
  have hx := B.exec
  have hb := B.bytes
  have hr := B.returns
  have hts := atoms_spec (ws := w_Calls_returnsAt) B.pre
  have hT : ∀ w ∈ TB, w.before _ s = true := fun w h => hts w (List.mem_cons_of_mem _ h)
  have hown : s.vm.findClass "ColonMachine$Calls" = some m.cls := findClass_of_methodNamed B.named
  have hlocks := B.notSynchronized
  subst hsz
  have hD := hD0.self (sz := s.heap.size)
  generalize hAe : va_A [(h, .inr (0, [.ref ao, .ref ap, .ref ar, .ref ad, .int n])), (ar, .inl (cI, 40, .inl fr))] s.heap.size = A at hD hE ⊢
  have hA : ∀ q : Nat, s.heap.size ≤ q → A q := fun q h => by rw [← hAe]; exact Or.inr h
  have hS : va_S A s.heap s.heap [] := va_S.rf
  have hl := lv_entry [.ref h, .int x1] (n := 2) (Nat.le_of_ble_eq_true rfl)
  rw [lg_entry_eq]
  generalize (lg_sl [.ref h, .int x1] ++ List.replicate (2 - (lg_sl [.ref h, .int x1]).length) Slot.unset).toArray = ls at hl ⊢
  have hl : lv_has ls 2 [(0, .ref h), (1, .int x1)] := hl
  have hF := F_Calls_returnsAt_e n fr x1
  refine lv_iload_n hx hb d_Calls_returnsAt_0 rfl (lv_at hl 1 rfl) ?_
  refine lv_if_lt (tgt := 21) hx hb d_Calls_returnsAt_1 (by decide) (fun c1 => ?_) (fun c1 => ?_)
  · have hF := hF.trans (if_pos c1)
    refine lv_iconst (v := 0) hx hb d_Calls_returnsAt_21 (by decide) ?_
    exact W.iret (v := 0) hx hb hr (fun t ht hW => ⟨⟨_, (), rfl, ⟨hF.symm, trivial⟩, ⟨by rw [ht]; exact hP, va_K.moved hW.alike hK, hD⟩⟩, hS.F ht⟩) hS.2.2 d_Calls_returnsAt_22
  · have hF := hF.trans (if_neg c1)
    refine lv_iload_n hx hb d_Calls_returnsAt_4 rfl (lv_at hl 1 rfl) ?_
    refine lv_aload_n hx hb d_Calls_returnsAt_5 rfl (lv_at hl 0 rfl) ?_
    refine va_get (D := D) (v := .int n) (C := "ColonMachine$Calls") (T := T_Calls) (N := 5) hx hb hT i_Calls hown hK hP 0 rfl rfl 4 (by decide) (hT _ fl_Calls_24) (fun _ h9 => h9) rfl d_Calls_returnsAt_6 ?_
    refine lv_icmp_ge (tgt := 21) hx hb d_Calls_returnsAt_9 (by decide) (fun c2 => ?_) (fun c2 => ?_)
    · have hF := hF.trans (if_pos c2)
      refine lv_iconst (v := 0) hx hb d_Calls_returnsAt_21 (by decide) ?_
      exact W.iret (v := 0) hx hb hr (fun t ht hW => ⟨⟨_, (), rfl, ⟨hF.symm, trivial⟩, ⟨by rw [ht]; exact hP, va_K.moved hW.alike hK, hD⟩⟩, hS.F ht⟩) hS.2.2 d_Calls_returnsAt_22
    · have hF := hF.trans (if_neg c2)
      refine lv_aload_n hx hb d_Calls_returnsAt_12 rfl (lv_at hl 0 rfl) ?_
      refine va_get (D := D) (v := .ref ar) (C := "ColonMachine$Calls") (T := T_Calls) (N := 5) hx hb hT i_Calls hown hK hP 0 rfl rfl 2 (by decide) (hT _ fl_Calls_18) (fun _ h9 => h9) rfl d_Calls_returnsAt_13 ?_
      refine lv_iload_n hx hb d_Calls_returnsAt_16 rfl (lv_at hl 1 rfl) ?_
      refine va_iald hx hb hK hP 1 0 rfl rfl (by have := ti_lo x1; have := ti_hi x1; have := ti_lo n; have := ti_hi n; have t40 : Int32.toInt 40 = 40 := rfl; have t0 : Int32.toInt 0 = 0 := rfl; rw [vp_in_iff]; (try simp only [true_or, or_true, true_and, and_true, z_tn, CellsOk, CallsOk, TextOk, MemOk, OutOk, Int32.lt_iff_toInt_lt, Int32.le_iff_toInt_le, ← Int32.toInt_inj, Int32.toInt_add, Int32.toInt_sub, Int32.toInt_mul, Int32.toInt_neg, zbm, zbm', t40, t0] at c1 c2 hi ⊢) <;> omega) d_Calls_returnsAt_17 ?_
      refine lv_goto (tgt := 22) hx hb d_Calls_returnsAt_18 (by decide) ?_
      exact W.iret (v := fr x1.toNatClampNeg) hx hb hr (fun t ht hW => ⟨⟨_, (), rfl, ⟨hF.symm, trivial⟩, ⟨by rw [ht]; exact hP, va_K.moved hW.alike hK, hD⟩⟩, hS.F ht⟩) hS.2.2 d_Calls_returnsAt_22
/-- the picture of ColonMachine$Calls.dataAt -/
def F_Calls_dataAt (n : Int32) (fd : Nat → Int32) (x1 : Int32) : Int32 := if x1 < 0 then 0 else (if n ≤ x1 then 0 else (fd x1.toNatClampNeg))
theorem F_Calls_dataAt_e (n : Int32) (fd : Nat → Int32) (x1 : Int32) : F_Calls_dataAt n fd x1 = if x1 < 0 then 0 else (if n ≤ x1 then 0 else (fd x1.toNatClampNeg)) := rfl
set_option maxHeartbeats 4000000 in
set_option maxRecDepth 100000 in
theorem c_Calls_dataAt (l : Launch) (D : va_G) (cI cJ cZ cW cT : ClassId) (sz : Nat) (h : Nat) (ao : Nat) (ap : Nat) (ar : Nat) (ad : Nat) (n : Int32) (fd : Nat → Int32) (x1 : Int32) (hi : CallsOk n) : Met l y_Calls_dataAt w_Calls_dataAt ({ frames := 0, cells := 0, slots := 0, locals := 0 }) (va_Pc [.ref h, .int x1] (zP D classes (TY cI cJ cZ cW cT) [(h, .inr (0, [.ref ao, .ref ap, .ref ar, .ref ad, .int n])), (ad, .inl (cI, 40, .inl fd))] sz)) (va_Qi (fun (r : Int32) (_ : Unit) => r = F_Calls_dataAt n fd x1 ∧ (True)) (fun _ => zB D classes (TY cI cJ cZ cW cT) (va_A [(h, .inr (0, [.ref ao, .ref ap, .ref ar, .ref ad, .int n])), (ad, .inl (cI, 40, .inl fd))] sz) [(h, .inr (0, [.ref ao, .ref ap, .ref ar, .ref ad, .int n])), (ad, .inl (cI, 40, .inl fd))]) (va_A [(h, .inr (0, [.ref ao, .ref ap, .ref ar, .ref ad, .int n])), (ad, .inl (cI, 40, .inl fd))] sz)) 0 0 (va_A [(h, .inr (0, [.ref ao, .ref ap, .ref ar, .ref ad, .int n])), (ad, .inl (cI, 40, .inl fd))] sz) := by
  refine Met.ofW (cc := b_Calls_dataAt) (maxL := 2) (ret := (some .int)) (by decide) rfl ?_
  intro p e s m args below meth c s₁ B hml hv
  obtain ⟨rfl, hsz, hP, hK, hD0, hE⟩ := hv
  have hx := B.exec
  have hb := B.bytes
  have hr := B.returns
  have hts := atoms_spec (ws := w_Calls_dataAt) B.pre
  have hT : ∀ w ∈ TB, w.before _ s = true := fun w h => hts w (List.mem_cons_of_mem _ h)
  have hown : s.vm.findClass "ColonMachine$Calls" = some m.cls := findClass_of_methodNamed B.named
  have hlocks := B.notSynchronized
  subst hsz
  have hD := hD0.self (sz := s.heap.size)
  generalize hAe : va_A [(h, .inr (0, [.ref ao, .ref ap, .ref ar, .ref ad, .int n])), (ad, .inl (cI, 40, .inl fd))] s.heap.size = A at hD hE ⊢
  have hA : ∀ q : Nat, s.heap.size ≤ q → A q := fun q h => by rw [← hAe]; exact Or.inr h
  have hS : va_S A s.heap s.heap [] := va_S.rf
  have hl := lv_entry [.ref h, .int x1] (n := 2) (Nat.le_of_ble_eq_true rfl)
  rw [lg_entry_eq]
  generalize (lg_sl [.ref h, .int x1] ++ List.replicate (2 - (lg_sl [.ref h, .int x1]).length) Slot.unset).toArray = ls at hl ⊢
  have hl : lv_has ls 2 [(0, .ref h), (1, .int x1)] := hl
  have hF := F_Calls_dataAt_e n fd x1
  refine lv_iload_n hx hb d_Calls_dataAt_0 rfl (lv_at hl 1 rfl) ?_
  refine lv_if_lt (tgt := 21) hx hb d_Calls_dataAt_1 (by decide) (fun c1 => ?_) (fun c1 => ?_)
  · have hF := hF.trans (if_pos c1)
    refine lv_iconst (v := 0) hx hb d_Calls_dataAt_21 (by decide) ?_
    exact W.iret (v := 0) hx hb hr (fun t ht hW => ⟨⟨_, (), rfl, ⟨hF.symm, trivial⟩, ⟨by rw [ht]; exact hP, va_K.moved hW.alike hK, hD⟩⟩, hS.F ht⟩) hS.2.2 d_Calls_dataAt_22
  · have hF := hF.trans (if_neg c1)
    refine lv_iload_n hx hb d_Calls_dataAt_4 rfl (lv_at hl 1 rfl) ?_
    refine lv_aload_n hx hb d_Calls_dataAt_5 rfl (lv_at hl 0 rfl) ?_
    refine va_get (D := D) (v := .int n) (C := "ColonMachine$Calls") (T := T_Calls) (N := 5) hx hb hT i_Calls hown hK hP 0 rfl rfl 4 (by decide) (hT _ fl_Calls_24) (fun _ h9 => h9) rfl d_Calls_dataAt_6 ?_
    refine lv_icmp_ge (tgt := 21) hx hb d_Calls_dataAt_9 (by decide) (fun c2 => ?_) (fun c2 => ?_)
    · have hF := hF.trans (if_pos c2)
      refine lv_iconst (v := 0) hx hb d_Calls_dataAt_21 (by decide) ?_
      exact W.iret (v := 0) hx hb hr (fun t ht hW => ⟨⟨_, (), rfl, ⟨hF.symm, trivial⟩, ⟨by rw [ht]; exact hP, va_K.moved hW.alike hK, hD⟩⟩, hS.F ht⟩) hS.2.2 d_Calls_dataAt_22
    · have hF := hF.trans (if_neg c2)
      refine lv_aload_n hx hb d_Calls_dataAt_12 rfl (lv_at hl 0 rfl) ?_
      refine va_get (D := D) (v := .ref ad) (C := "ColonMachine$Calls") (T := T_Calls) (N := 5) hx hb hT i_Calls hown hK hP 0 rfl rfl 3 (by decide) (hT _ fl_Calls_21) (fun _ h9 => h9) rfl d_Calls_dataAt_13 ?_
      refine lv_iload_n hx hb d_Calls_dataAt_16 rfl (lv_at hl 1 rfl) ?_
      refine va_iald hx hb hK hP 1 0 rfl rfl (by have := ti_lo x1; have := ti_hi x1; have := ti_lo n; have := ti_hi n; have t40 : Int32.toInt 40 = 40 := rfl; have t0 : Int32.toInt 0 = 0 := rfl; rw [vp_in_iff]; (try simp only [true_or, or_true, true_and, and_true, z_tn, CellsOk, CallsOk, TextOk, MemOk, OutOk, Int32.lt_iff_toInt_lt, Int32.le_iff_toInt_le, ← Int32.toInt_inj, Int32.toInt_add, Int32.toInt_sub, Int32.toInt_mul, Int32.toInt_neg, zbm, zbm', t40, t0] at c1 c2 hi ⊢) <;> omega) d_Calls_dataAt_17 ?_
      refine lv_goto (tgt := 22) hx hb d_Calls_dataAt_18 (by decide) ?_
      exact W.iret (v := fd x1.toNatClampNeg) hx hb hr (fun t ht hW => ⟨⟨_, (), rfl, ⟨hF.symm, trivial⟩, ⟨by rw [ht]; exact hP, va_K.moved hW.alike hK, hD⟩⟩, hS.F ht⟩) hS.2.2 d_Calls_dataAt_22
