theorem co_Text_isNumber : (Jvm.Cond.code ({ cls := "ColonMachine$Text", name := "isNumber", desc := "(I)Z" } : Jvm.MethodName) prog_9_method_13_code (5 : Nat) (Option.some Jvm.ClassFile.FieldType.boolean)) ∈ TB := tbI3 _ (List.mem_of_getElem? (i := 36) rfl) rfl
theorem ml_Text_58 : (Jvm.Cond.methodLink "ColonMachine$Text" (58 : Nat) ({ cls := "ColonMachine$Text", name := "digitsBegin", desc := "()I" } : Jvm.MethodName)) ∈ TB := tbI3 _ (List.mem_of_getElem? (i := 37) rfl) rfl
theorem im_Text_digitsBegin : (Jvm.Cond.instanceMethod ({ cls := "ColonMachine$Text", name := "digitsBegin", desc := "()I" } : Jvm.MethodName)) ∈ TB := tbI3 _ (List.mem_of_getElem? (i := 39) rfl) rfl
theorem se_Text_digitsBegin : (Jvm.Cond.selects "ColonMachine$Text" ({ cls := "ColonMachine$Text", name := "digitsBegin", desc := "()I" } : Jvm.MethodName) ({ cls := "ColonMachine$Text", name := "digitsBegin", desc := "()I" } : Jvm.MethodName)) ∈ TB := tbP _ (List.mem_of_getElem? (i := 3) rfl) rfl
theorem ml_Text_61 : (Jvm.Cond.methodLink "ColonMachine$Text" (61 : Nat) ({ cls := "ColonMachine$Memory", name := "isBase", desc := "(I)Z" } : Jvm.MethodName)) ∈ TB := tbI3 _ (List.mem_of_getElem? (i := 41) rfl) rfl
theorem sm_Memory_isBase : (Jvm.Cond.static ({ cls := "ColonMachine$Memory", name := "isBase", desc := "(I)Z" } : Jvm.MethodName)) ∈ TB := tbI3 _ (List.mem_of_getElem? (i := 42) rfl) rfl
theorem ml_Text_67 : (Jvm.Cond.methodLink "ColonMachine$Text" (67 : Nat) ({ cls := "ColonMachine$Text", name := "digit", desc := "(I)I" } : Jvm.MethodName)) ∈ TB := tbI3 _ (List.mem_of_getElem? (i := 44) rfl) rfl
theorem sm_Text_digit : (Jvm.Cond.static ({ cls := "ColonMachine$Text", name := "digit", desc := "(I)I" } : Jvm.MethodName)) ∈ TB := tbI3 _ (List.mem_of_getElem? (i := 45) rfl) rfl
theorem co_Text_number : (Jvm.Cond.code ({ cls := "ColonMachine$Text", name := "number", desc := "(I)I" } : Jvm.MethodName) prog_9_method_14_code (5 : Nat) (Option.some Jvm.ClassFile.FieldType.int)) ∈ TB := tbI5 _ (List.mem_of_getElem? (i := 42) rfl) rfl
theorem co_Text_placeOf : (Jvm.Cond.code ({ cls := "ColonMachine$Text", name := "placeOf", desc := "(I)I" } : Jvm.MethodName) prog_9_method_15_code (3 : Nat) (Option.some Jvm.ClassFile.FieldType.int)) ∈ TB := tbI4 _ (List.mem_of_getElem? (i := 161) rfl) rfl
theorem co_Text_skipBehind : (Jvm.Cond.code ({ cls := "ColonMachine$Text", name := "skipBehind", desc := "(I)V" } : Jvm.MethodName) prog_9_method_16_code (3 : Nat) (Option.none : Option Jvm.ClassFile.FieldType)) ∈ TB := tbI4 _ (List.mem_of_getElem? (i := 157) rfl) rfl
theorem ml_Text_70 : (Jvm.Cond.methodLink "ColonMachine$Text" (70 : Nat) ({ cls := "ColonMachine$Text", name := "placeOf", desc := "(I)I" } : Jvm.MethodName)) ∈ TB := tbI4 _ (List.mem_of_getElem? (i := 158) rfl) rfl
theorem im_Text_placeOf : (Jvm.Cond.instanceMethod ({ cls := "ColonMachine$Text", name := "placeOf", desc := "(I)I" } : Jvm.MethodName)) ∈ TB := tbI4 _ (List.mem_of_getElem? (i := 160) rfl) rfl
theorem se_Text_placeOf : (Jvm.Cond.selects "ColonMachine$Text" ({ cls := "ColonMachine$Text", name := "placeOf", desc := "(I)I" } : Jvm.MethodName) ({ cls := "ColonMachine$Text", name := "placeOf", desc := "(I)I" } : Jvm.MethodName)) ∈ TB := tbP _ (List.mem_of_getElem? (i := 9) rfl) rfl
abbrev b_Text_isNumber : ByteArray := prog_9_method_13_code
def y_Text_isNumber : MethodName := { cls := "ColonMachine$Text", name := "isNumber", desc := "(I)Z" }
abbrev w_Text_isNumber : List Cond := .code y_Text_isNumber b_Text_isNumber 5 (Option.some Jvm.ClassFile.FieldType.boolean) :: TB
theorem v_Text_digitsBegin : y_Text_digitsBegin.cls = "ColonMachine$Text" ∧ y_Text_digitsBegin.cls ≠ "java/lang/invoke/MethodHandle" ∧ y_Text_digitsBegin.cls ≠ "java/lang/invoke/VarHandle" ∧ (parseMethodDescriptor y_Text_digitsBegin.desc).map (fun d => d.parameters.length) = some 0 := by decide +kernel
theorem vs_Memory_isBase : y_Memory_isBase.cls ≠ "java/lang/invoke/MethodHandle" ∧ y_Memory_isBase.cls ≠ "java/lang/invoke/VarHandle" ∧ (parseMethodDescriptor y_Memory_isBase.desc).map (fun d => d.parameters.length) = some 1 := by decide +kernel
theorem vs_Text_digit : y_Text_digit.cls ≠ "java/lang/invoke/MethodHandle" ∧ y_Text_digit.cls ≠ "java/lang/invoke/VarHandle" ∧ (parseMethodDescriptor y_Text_digit.desc).map (fun d => d.parameters.length) = some 1 := by decide +kernel
abbrev b_Text_number : ByteArray := prog_9_method_14_code
def y_Text_number : MethodName := { cls := "ColonMachine$Text", name := "number", desc := "(I)I" }
abbrev w_Text_number : List Cond := .code y_Text_number b_Text_number 5 (Option.some Jvm.ClassFile.FieldType.int) :: TB
abbrev b_Text_placeOf : ByteArray := prog_9_method_15_code
def y_Text_placeOf : MethodName := { cls := "ColonMachine$Text", name := "placeOf", desc := "(I)I" }
abbrev w_Text_placeOf : List Cond := .code y_Text_placeOf b_Text_placeOf 3 (Option.some Jvm.ClassFile.FieldType.int) :: TB
abbrev b_Text_skipBehind : ByteArray := prog_9_method_16_code
def y_Text_skipBehind : MethodName := { cls := "ColonMachine$Text", name := "skipBehind", desc := "(I)V" }
abbrev w_Text_skipBehind : List Cond := .code y_Text_skipBehind b_Text_skipBehind 3 (Option.none : Option Jvm.ClassFile.FieldType) :: TB
theorem v_Text_placeOf : y_Text_placeOf.cls = "ColonMachine$Text" ∧ y_Text_placeOf.cls ≠ "java/lang/invoke/MethodHandle" ∧ y_Text_placeOf.cls ≠ "java/lang/invoke/VarHandle" ∧ (parseMethodDescriptor y_Text_placeOf.desc).map (fun d => d.parameters.length) = some 1 := by decide +kernel
theorem d_Text_isNumber_0 : decode b_Text_isNumber 0 = .ok (.aload_n 0, 1) := by decide +kernel
theorem d_Text_isNumber_1 : decode b_Text_isNumber 1 = .ok (.invokevirtual 58, 3) := by decide +kernel
theorem d_Text_isNumber_4 : decode b_Text_isNumber 4 = .ok (.istore_n 2, 1) := by decide +kernel
theorem d_Text_isNumber_5 : decode b_Text_isNumber 5 = .ok (.iload_n 1, 1) := by decide +kernel
theorem d_Text_isNumber_6 : decode b_Text_isNumber 6 = .ok (.invokestatic 61, 3) := by decide +kernel
theorem d_Text_isNumber_9 : decode b_Text_isNumber 9 = .ok (.ifCond .eq 11, 3) := by decide +kernel
theorem d_Text_isNumber_20 : decode b_Text_isNumber 20 = .ok (.iconst 0, 1) := by decide +kernel
theorem d_Text_isNumber_21 : decode b_Text_isNumber 21 = .ok (.ireturn, 1) := by decide +kernel
theorem d_Text_isNumber_12 : decode b_Text_isNumber 12 = .ok (.iload_n 2, 1) := by decide +kernel
theorem d_Text_isNumber_13 : decode b_Text_isNumber 13 = .ok (.aload_n 0, 1) := by decide +kernel
theorem d_Text_isNumber_14 : decode b_Text_isNumber 14 = .ok (.getfield 25, 3) := by decide +kernel
theorem d_Text_isNumber_17 : decode b_Text_isNumber 17 = .ok (.if_icmp .lt 5, 3) := by decide +kernel
theorem d_Text_isNumber_22 : decode b_Text_isNumber 22 = .ok (.iload_n 2, 1) := by decide +kernel
theorem d_Text_isNumber_23 : decode b_Text_isNumber 23 = .ok (.istore_n 3, 1) := by decide +kernel
theorem d_Text_isNumber_24 : decode b_Text_isNumber 24 = .ok (.iload_n 3, 1) := by decide +kernel
theorem d_Text_isNumber_25 : decode b_Text_isNumber 25 = .ok (.aload_n 0, 1) := by decide +kernel
theorem d_Text_isNumber_26 : decode b_Text_isNumber 26 = .ok (.getfield 25, 3) := by decide +kernel
theorem d_Text_isNumber_29 : decode b_Text_isNumber 29 = .ok (.if_icmp .ge 34, 3) := by decide +kernel
theorem d_Text_isNumber_63 : decode b_Text_isNumber 63 = .ok (.iconst 1, 1) := by decide +kernel
theorem d_Text_isNumber_64 : decode b_Text_isNumber 64 = .ok (.ireturn, 1) := by decide +kernel
theorem d_Text_isNumber_32 : decode b_Text_isNumber 32 = .ok (.aload_n 0, 1) := by decide +kernel
theorem d_Text_isNumber_33 : decode b_Text_isNumber 33 = .ok (.getfield 11, 3) := by decide +kernel
theorem d_Text_isNumber_36 : decode b_Text_isNumber 36 = .ok (.iload_n 3, 1) := by decide +kernel
theorem d_Text_isNumber_37 : decode b_Text_isNumber 37 = .ok (.iaload, 1) := by decide +kernel
theorem d_Text_isNumber_38 : decode b_Text_isNumber 38 = .ok (.invokestatic 67, 3) := by decide +kernel
theorem d_Text_isNumber_41 : decode b_Text_isNumber 41 = .ok (.istore 4, 2) := by decide +kernel
theorem d_Text_isNumber_43 : decode b_Text_isNumber 43 = .ok (.iload 4, 2) := by decide +kernel
theorem d_Text_isNumber_45 : decode b_Text_isNumber 45 = .ok (.iconst (-1), 1) := by decide +kernel
theorem d_Text_isNumber_46 : decode b_Text_isNumber 46 = .ok (.if_icmp .eq 9, 3) := by decide +kernel
theorem d_Text_isNumber_55 : decode b_Text_isNumber 55 = .ok (.iconst 0, 1) := by decide +kernel
theorem d_Text_isNumber_56 : decode b_Text_isNumber 56 = .ok (.ireturn, 1) := by decide +kernel
theorem d_Text_isNumber_49 : decode b_Text_isNumber 49 = .ok (.iload 4, 2) := by decide +kernel
theorem d_Text_isNumber_51 : decode b_Text_isNumber 51 = .ok (.iload_n 1, 1) := by decide +kernel
theorem d_Text_isNumber_52 : decode b_Text_isNumber 52 = .ok (.if_icmp .lt 5, 3) := by decide +kernel
theorem d_Text_isNumber_57 : decode b_Text_isNumber 57 = .ok (.iinc 3 1, 3) := by decide +kernel
theorem d_Text_isNumber_60 : decode b_Text_isNumber 60 = .ok (.goto (-36), 3) := by decide +kernel
theorem d_Text_number_0 : decode b_Text_number 0 = .ok (.aload_n 0, 1) := by decide +kernel
theorem d_Text_number_1 : decode b_Text_number 1 = .ok (.invokevirtual 58, 3) := by decide +kernel
theorem d_Text_number_4 : decode b_Text_number 4 = .ok (.istore_n 2, 1) := by decide +kernel
theorem d_Text_number_5 : decode b_Text_number 5 = .ok (.iconst 0, 1) := by decide +kernel
theorem d_Text_number_6 : decode b_Text_number 6 = .ok (.istore_n 3, 1) := by decide +kernel
theorem d_Text_number_7 : decode b_Text_number 7 = .ok (.iload_n 2, 1) := by decide +kernel
theorem d_Text_number_8 : decode b_Text_number 8 = .ok (.istore 4, 2) := by decide +kernel
theorem d_Text_number_10 : decode b_Text_number 10 = .ok (.iload 4, 2) := by decide +kernel
theorem d_Text_number_12 : decode b_Text_number 12 = .ok (.aload_n 0, 1) := by decide +kernel
theorem d_Text_number_13 : decode b_Text_number 13 = .ok (.getfield 25, 3) := by decide +kernel
theorem d_Text_number_16 : decode b_Text_number 16 = .ok (.if_icmp .ge 24, 3) := by decide +kernel
theorem d_Text_number_40 : decode b_Text_number 40 = .ok (.iload_n 2, 1) := by decide +kernel
theorem d_Text_number_41 : decode b_Text_number 41 = .ok (.aload_n 0, 1) := by decide +kernel
theorem d_Text_number_42 : decode b_Text_number 42 = .ok (.getfield 22, 3) := by decide +kernel
theorem d_Text_number_45 : decode b_Text_number 45 = .ok (.if_icmp .ne 7, 3) := by decide +kernel
theorem d_Text_number_52 : decode b_Text_number 52 = .ok (.iload_n 3, 1) := by decide +kernel
theorem d_Text_number_53 : decode b_Text_number 53 = .ok (.ineg, 1) := by decide +kernel
theorem d_Text_number_54 : decode b_Text_number 54 = .ok (.ireturn, 1) := by decide +kernel
theorem d_Text_number_48 : decode b_Text_number 48 = .ok (.iload_n 3, 1) := by decide +kernel
theorem d_Text_number_49 : decode b_Text_number 49 = .ok (.goto 5, 3) := by decide +kernel
theorem d_Text_number_19 : decode b_Text_number 19 = .ok (.iload_n 3, 1) := by decide +kernel
theorem d_Text_number_20 : decode b_Text_number 20 = .ok (.iload_n 1, 1) := by decide +kernel
theorem d_Text_number_21 : decode b_Text_number 21 = .ok (.imul, 1) := by decide +kernel
theorem d_Text_number_22 : decode b_Text_number 22 = .ok (.aload_n 0, 1) := by decide +kernel
theorem d_Text_number_23 : decode b_Text_number 23 = .ok (.getfield 11, 3) := by decide +kernel
theorem d_Text_number_26 : decode b_Text_number 26 = .ok (.iload 4, 2) := by decide +kernel
theorem d_Text_number_28 : decode b_Text_number 28 = .ok (.iaload, 1) := by decide +kernel
theorem d_Text_number_29 : decode b_Text_number 29 = .ok (.invokestatic 67, 3) := by decide +kernel
theorem d_Text_number_32 : decode b_Text_number 32 = .ok (.iadd, 1) := by decide +kernel
theorem d_Text_number_33 : decode b_Text_number 33 = .ok (.istore_n 3, 1) := by decide +kernel
theorem d_Text_number_34 : decode b_Text_number 34 = .ok (.iinc 4 1, 3) := by decide +kernel
theorem d_Text_number_37 : decode b_Text_number 37 = .ok (.goto (-27), 3) := by decide +kernel
theorem d_Text_placeOf_0 : decode b_Text_placeOf 0 = .ok (.aload_n 0, 1) := by decide +kernel
theorem d_Text_placeOf_1 : decode b_Text_placeOf 1 = .ok (.getfield 15, 3) := by decide +kernel
theorem d_Text_placeOf_4 : decode b_Text_placeOf 4 = .ok (.istore_n 2, 1) := by decide +kernel
theorem d_Text_placeOf_5 : decode b_Text_placeOf 5 = .ok (.iload_n 2, 1) := by decide +kernel
theorem d_Text_placeOf_6 : decode b_Text_placeOf 6 = .ok (.aload_n 0, 1) := by decide +kernel
theorem d_Text_placeOf_7 : decode b_Text_placeOf 7 = .ok (.getfield 19, 3) := by decide +kernel
theorem d_Text_placeOf_10 : decode b_Text_placeOf 10 = .ok (.if_icmp .ge 21, 3) := by decide +kernel
theorem d_Text_placeOf_31 : decode b_Text_placeOf 31 = .ok (.iconst (-1), 1) := by decide +kernel
theorem d_Text_placeOf_32 : decode b_Text_placeOf 32 = .ok (.ireturn, 1) := by decide +kernel
theorem d_Text_placeOf_13 : decode b_Text_placeOf 13 = .ok (.aload_n 0, 1) := by decide +kernel
theorem d_Text_placeOf_14 : decode b_Text_placeOf 14 = .ok (.getfield 11, 3) := by decide +kernel
theorem d_Text_placeOf_17 : decode b_Text_placeOf 17 = .ok (.iload_n 2, 1) := by decide +kernel
theorem d_Text_placeOf_18 : decode b_Text_placeOf 18 = .ok (.iaload, 1) := by decide +kernel
theorem d_Text_placeOf_19 : decode b_Text_placeOf 19 = .ok (.iload_n 1, 1) := by decide +kernel
theorem d_Text_placeOf_20 : decode b_Text_placeOf 20 = .ok (.if_icmp .ne 5, 3) := by decide +kernel
theorem d_Text_placeOf_25 : decode b_Text_placeOf 25 = .ok (.iinc 2 1, 3) := by decide +kernel
theorem d_Text_placeOf_28 : decode b_Text_placeOf 28 = .ok (.goto (-23), 3) := by decide +kernel
theorem d_Text_placeOf_23 : decode b_Text_placeOf 23 = .ok (.iload_n 2, 1) := by decide +kernel
theorem d_Text_placeOf_24 : decode b_Text_placeOf 24 = .ok (.ireturn, 1) := by decide +kernel
theorem d_Text_skipBehind_0 : decode b_Text_skipBehind 0 = .ok (.aload_n 0, 1) := by decide +kernel
theorem d_Text_skipBehind_1 : decode b_Text_skipBehind 1 = .ok (.iload_n 1, 1) := by decide +kernel
theorem d_Text_skipBehind_2 : decode b_Text_skipBehind 2 = .ok (.invokevirtual 70, 3) := by decide +kernel
theorem d_Text_skipBehind_5 : decode b_Text_skipBehind 5 = .ok (.istore_n 2, 1) := by decide +kernel
theorem d_Text_skipBehind_6 : decode b_Text_skipBehind 6 = .ok (.aload_n 0, 1) := by decide +kernel
theorem d_Text_skipBehind_7 : decode b_Text_skipBehind 7 = .ok (.iload_n 2, 1) := by decide +kernel
theorem d_Text_skipBehind_8 : decode b_Text_skipBehind 8 = .ok (.iconst (-1), 1) := by decide +kernel
theorem d_Text_skipBehind_9 : decode b_Text_skipBehind 9 = .ok (.if_icmp .ne 10, 3) := by decide +kernel
theorem d_Text_skipBehind_19 : decode b_Text_skipBehind 19 = .ok (.iload_n 2, 1) := by decide +kernel
theorem d_Text_skipBehind_20 : decode b_Text_skipBehind 20 = .ok (.iconst 1, 1) := by decide +kernel
theorem d_Text_skipBehind_21 : decode b_Text_skipBehind 21 = .ok (.iadd, 1) := by decide +kernel
theorem d_Text_skipBehind_22 : decode b_Text_skipBehind 22 = .ok (.putfield 15, 3) := by decide +kernel
theorem d_Text_skipBehind_25 : decode b_Text_skipBehind 25 = .ok (.return_, 1) := by decide +kernel
theorem d_Text_skipBehind_12 : decode b_Text_skipBehind 12 = .ok (.aload_n 0, 1) := by decide +kernel
theorem d_Text_skipBehind_13 : decode b_Text_skipBehind 13 = .ok (.getfield 19, 3) := by decide +kernel
theorem d_Text_skipBehind_16 : decode b_Text_skipBehind 16 = .ok (.goto 6, 3) := by decide +kernel
def F_Text_isNumber_L24 (tx : Int32) (tf : Nat → Int32) (x1 : Int32) : Nat → (Int32) → Int32
  | 0, _ => 0
  | k24 + 1, v3 => if tx ≤ v3 then 1 else (bd (F_Text_digit (tf v3.toNatClampNeg)) (fun q6 => if q6 = (-1) then 0 else (if q6 < x1 then (F_Text_isNumber_L24 tx tf x1 k24 (v3 + 1)) else 0)))
theorem F_Text_isNumber_L24_s (tx : Int32) (tf : Nat → Int32) (x1 : Int32) (k24 : Nat) (v3 : Int32) : F_Text_isNumber_L24 tx tf x1 (k24 + 1) v3 = if tx ≤ v3 then 1 else (bd (F_Text_digit (tf v3.toNatClampNeg)) (fun q6 => if q6 = (-1) then 0 else (if q6 < x1 then (F_Text_isNumber_L24 tx tf x1 k24 (v3 + 1)) else 0))) := rfl
/-- the picture of ColonMachine$Text.isNumber -/
def F_Text_isNumber (tw : Int32) (tx : Int32) (tf : Nat → Int32) (x1 : Int32) : Int32 := bd (F_Text_digitsBegin tw tx tf) (fun q1 => bd (F_Memory_isBase x1) (fun q2 => if q2 = 0 then 0 else (if q1 < tx then (F_Text_isNumber_L24 tx tf x1 (((tx.toInt - q1.toInt).toNat) + 1) q1) else 0)))
theorem F_Text_isNumber_e (tw : Int32) (tx : Int32) (tf : Nat → Int32) (x1 : Int32) : F_Text_isNumber tw tx tf x1 = bd (F_Text_digitsBegin tw tx tf) (fun q1 => bd (F_Memory_isBase x1) (fun q2 => if q2 = 0 then 0 else (if q1 < tx then (F_Text_isNumber_L24 tx tf x1 (((tx.toInt - q1.toInt).toNat) + 1) q1) else 0))) := rfl
set_option maxHeartbeats 4000000 in
set_option maxRecDepth 100000 in
theorem c_Text_isNumber (l : Launch) (D : va_G) (cI cJ cZ cW cT : ClassId) (sz : Nat) (h : Nat) (a : Nat) (tb : Int32) (te : Int32) (tw : Int32) (tx : Int32) (tf : Nat → Int32) (x1 : Int32) (hi : TextOk tb te tw tx) : Met l y_Text_isNumber w_Text_isNumber ({ frames := 1, cells := 0, slots := 0, locals := 21 }) (va_Pc [.ref h, .int x1] (zP D classes (TY cI cJ cZ cW cT) [(h, .inr (7, [.ref a, .int tb, .int te, .int tw, .int tx])), (a, .inl (cI, 500, .inl tf))] sz)) (va_Qi (fun (r : Int32) (_ : Unit) => r = F_Text_isNumber tw tx tf x1 ∧ ((r = 0 ∨ r = 1))) (fun _ => zB D classes (TY cI cJ cZ cW cT) (va_A [(h, .inr (7, [.ref a, .int tb, .int te, .int tw, .int tx])), (a, .inl (cI, 500, .inl tf))] sz) [(h, .inr (7, [.ref a, .int tb, .int te, .int tw, .int tx])), (a, .inl (cI, 500, .inl tf))]) (va_A [(h, .inr (7, [.ref a, .int tb, .int te, .int tw, .int tx])), (a, .inl (cI, 500, .inl tf))] sz)) 0 0 (va_A [(h, .inr (7, [.ref a, .int tb, .int te, .int tw, .int tx])), (a, .inl (cI, 500, .inl tf))] sz) := by
  refine Met.ofW (cc := b_Text_isNumber) (maxL := 5) (ret := (some .boolean)) (by decide) rfl ?_
  intro p e s m args below meth c s₁ B hml hv
  obtain ⟨rfl, hsz, hP, hK, hD0, hE⟩ := hv
  have hx := B.exec
  have hb := B.bytes
  have hr := B.returns
  have hts := atoms_spec (ws := w_Text_isNumber) B.pre
  have hT : ∀ w ∈ TB, w.before _ s = true := fun w h => hts w (List.mem_cons_of_mem _ h)
  have hown : s.vm.findClass "ColonMachine$Text" = some m.cls := findClass_of_methodNamed B.named
  have hlocks := B.notSynchronized
  subst hsz
  have hD := hD0.self (sz := s.heap.size)
  generalize hAe : va_A [(h, .inr (7, [.ref a, .int tb, .int te, .int tw, .int tx])), (a, .inl (cI, 500, .inl tf))] s.heap.size = A at hD hE ⊢
  have hA : ∀ q : Nat, s.heap.size ≤ q → A q := fun q h => by rw [← hAe]; exact Or.inr h
  have hS : va_S A s.heap s.heap [] := va_S.rf
  have hl := lv_entry [.ref h, .int x1] (n := 5) (Nat.le_of_ble_eq_true rfl)
  rw [lg_entry_eq]
  generalize (lg_sl [.ref h, .int x1] ++ List.replicate (5 - (lg_sl [.ref h, .int x1]).length) Slot.unset).toArray = ls at hl ⊢
  have hl : lv_has ls 5 [(0, .ref h), (1, .int x1)] := hl
  have hF := F_Text_isNumber_e tw tx tf x1
  refine lv_aload_n hx hb d_Text_isNumber_0 rfl (lv_at hl 0 rfl) ?_
  refine kN_pi (wr := []) (zV (wc := [(h, .inr (7, [.ref a, .int tb, .int te, .int tw, .int tx])), (a, .inl (cI, 500, .inl tf))]) (As := []) (rest := []) (st0 := [.ref h]) ⟨hx, hb, hml, hown, hT⟩ (c_Text_digitsBegin l D cI cJ cZ cW cT s.heap.size h a tb te tw tx tf hi) (cwV 0 hT (tbV ml_Text_58 im_Text_digitsBegin se_Text_digitsBegin in_Text co_Text_digitsBegin) rfl rfl rfl v_Text_digitsBegin ⟨Nat.le_of_ble_eq_true rfl, Nat.le_of_ble_eq_true rfl⟩) hK hE hP hD hS hA [0, 1] rfl rfl 0 rfl rfl rfl hl.1 rfl (Nat.le_of_ble_eq_true rfl) d_Text_isNumber_1 ⟨Nat.le_of_ble_eq_true rfl, Nat.le_of_ble_eq_true rfl⟩) hP hD hS hA [0, 1] [] rfl rfl rfl (by decide) [0, 1] rfl rfl (fun q1 H locs e1 k1 hP hD hS => ?_)
  have hP : va_P D classes [(h, .inr (7, [.ref a, .int tb, .int te, .int tw, .int tx])), (a, .inl (cI, 500, .inl tf))] H := hP
  have hD : va_D A [(h, .inr (7, [.ref a, .int tb, .int te, .int tw, .int tx])), (a, .inl (cI, 500, .inl tf))] := hD
  have hF := hF.trans (bd_e e1)
  refine lv_istore_n (lv' := [(2, .int q1), (0, .ref h), (1, .int x1)]) hx hb d_Text_isNumber_4 rfl hl (by decide) rfl (fun ls hl => ?_)
  refine lv_iload_n hx hb d_Text_isNumber_5 rfl (lv_at hl 2 rfl) ?_
  refine kN_pi (wr := [(h, .inr (7, [.ref a, .int tb, .int te, .int tw, .int tx])), (a, .inl (cI, 500, .inl tf))]) (zS (wc := []) (As := [.int x1]) (rest := []) (st0 := [.int x1]) ⟨hx, hb, hml, hown, hT⟩ (c_Memory_isBase l D cI cJ cZ cW cT H.size x1) (va_cwS 1 hT (tbS ml_Text_61 sm_Memory_isBase in_Memory co_Memory_isBase) rfl rfl rfl vs_Memory_isBase ⟨Nat.le_of_ble_eq_true rfl, Nat.le_of_ble_eq_true rfl⟩) hK hE hP hD hS hA [] rfl rfl rfl hl.1 rfl (Nat.le_of_ble_eq_true rfl) d_Text_isNumber_6 ⟨Nat.le_of_ble_eq_true rfl, Nat.le_of_ble_eq_true rfl⟩) hP hD hS hA [] [0, 1] rfl rfl rfl (by decide) [0, 1] rfl rfl (fun q2 H locs e2 k2 hP hD hS => ?_)
  have hP : va_P D classes [(h, .inr (7, [.ref a, .int tb, .int te, .int tw, .int tx])), (a, .inl (cI, 500, .inl tf))] H := hP
  have hD : va_D A [(h, .inr (7, [.ref a, .int tb, .int te, .int tw, .int tx])), (a, .inl (cI, 500, .inl tf))] := hD
  have hF := hF.trans (bd_e e2)
  refine lv_if_eq (tgt := 20) hx hb d_Text_isNumber_9 (by decide) (fun c3 => ?_) (fun c3 => ?_)
  · have hF := hF.trans (if_pos c3)
    refine lv_iconst (v := 0) hx hb d_Text_isNumber_20 (by decide) ?_
    exact W.zret (v := 0) hx hb hr rfl (fun t ht hW => ⟨⟨_, (), rfl, ⟨hF.symm, (Or.inl rfl)⟩, ⟨by rw [ht]; exact hP, va_K.moved hW.alike hK, hD⟩⟩, hS.F ht⟩) hS.2.2 d_Text_isNumber_21
  · have hF := hF.trans (if_neg c3)
    refine lv_iload_n hx hb d_Text_isNumber_12 rfl (lv_at hl 0 rfl) ?_
    refine lv_aload_n hx hb d_Text_isNumber_13 rfl (lv_at hl 1 rfl) ?_
    refine va_get (D := D) (v := .int tx) (C := "ColonMachine$Text") (T := T_Text) (N := 5) hx hb hT i_Text hown hK hP 0 rfl rfl 4 (by decide) (hT _ fl_Text_25) (fun _ h9 => h9) rfl d_Text_isNumber_14 ?_
    refine lv_icmp_lt (tgt := 22) hx hb d_Text_isNumber_17 (by decide) (fun c4 => ?_) (fun c4 => ?_)
    · have hF := hF.trans (if_pos c4)
      refine lv_iload_n hx hb d_Text_isNumber_22 rfl (lv_at hl 0 rfl) ?_
      refine lv_istore_n (lv' := [(3, .int q1), (2, .int q1), (0, .ref h), (1, .int x1)]) hx hb d_Text_isNumber_23 rfl hl (by decide) rfl (fun ls hl => ?_)
      have loop : ∀ (k24 : Nat) (v3 : Int32) (hk : (tx.toInt - v3.toInt).toNat < k24) (hw : tw.toInt ≤ v3.toInt) (H : Heap) (locs : List Loc) (ls : Array Slot) (hP : va_P D classes [(h, .inr (7, [.ref a, .int tb, .int te, .int tw, .int tx])), (a, .inl (cI, 500, .inl tf))] H) (hD : va_D A [(h, .inr (7, [.ref a, .int tb, .int te, .int tw, .int tx])), (a, .inl (cI, 500, .inl tf))]) (hS : va_S A s.heap H locs) (hl : lv_has ls 5 [(3, .int v3), (2, .int q1), (0, .ref h), (1, .int x1)]) (hF : F_Text_isNumber tw tx tf x1 = F_Text_isNumber_L24 tx tf x1 k24 v3), W p l e (headSpec w_Text_isNumber ({ frames := 1, cells := 0, slots := 0, locals := 21 })).room s m (List.toArray [.ref h, .int x1]) below meth c H locs 0 0 (MQ below (va_Qi (fun (r : Int32) (_ : Unit) => r = F_Text_isNumber tw tx tf x1 ∧ ((r = 0 ∨ r = 1))) (fun _ => zB D classes (TY cI cJ cZ cW cT) A [(h, .inr (7, [.ref a, .int tb, .int te, .int tw, .int tx])), (a, .inl (cI, 500, .inl tf))]) A) (List.toArray [.ref h, .int x1]) s 0 0 A) (F0 m 24 ls []) := by
        intro k24
        induction k24 with
        | zero => intro v3 hk; exact absurd hk (Nat.not_lt_zero _)
        | succ k24 ih =>
          intro v3 hk hw H locs ls hP hD hS hl hF
          have hF := hF.trans (F_Text_isNumber_L24_s tx tf x1 k24 v3)
          refine lv_iload_n hx hb d_Text_isNumber_24 rfl (lv_at hl 0 rfl) ?_
          refine lv_aload_n hx hb d_Text_isNumber_25 rfl (lv_at hl 2 rfl) ?_
          refine va_get (D := D) (v := .int tx) (C := "ColonMachine$Text") (T := T_Text) (N := 5) hx hb hT i_Text hown hK hP 0 rfl rfl 4 (by decide) (hT _ fl_Text_25) (fun _ h9 => h9) rfl d_Text_isNumber_26 ?_
          refine lv_icmp_ge (tgt := 63) hx hb d_Text_isNumber_29 (by decide) (fun c5 => ?_) (fun c5 => ?_)
          · have hF := hF.trans (if_pos c5)
            refine lv_iconst (v := 1) hx hb d_Text_isNumber_63 (by decide) ?_
            exact W.zret (v := 1) hx hb hr rfl (fun t ht hW => ⟨⟨_, (), rfl, ⟨hF.symm, (Or.inr rfl)⟩, ⟨by rw [ht]; exact hP, va_K.moved hW.alike hK, hD⟩⟩, hS.F ht⟩) hS.2.2 d_Text_isNumber_64
          · have hF := hF.trans (if_neg c5)
            refine lv_aload_n hx hb d_Text_isNumber_32 rfl (lv_at hl 2 rfl) ?_
            refine va_get (D := D) (v := .ref a) (C := "ColonMachine$Text") (T := T_Text) (N := 5) hx hb hT i_Text hown hK hP 0 rfl rfl 0 (by decide) (hT _ fl_Text_11) (fun _ h9 => h9) rfl d_Text_isNumber_33 ?_
            refine lv_iload_n hx hb d_Text_isNumber_36 rfl (lv_at hl 0 rfl) ?_
            refine va_iald hx hb hK hP 1 0 rfl rfl (by have := ti_lo v3; have := ti_hi v3; have := ti_lo tb; have := ti_hi tb; have := ti_lo te; have := ti_hi te; have := ti_lo tw; have := ti_hi tw; have := ti_lo tx; have := ti_hi tx; have := ti_lo q1; have := ti_hi q1; have := ti_lo x1; have := ti_hi x1; have := ti_lo q2; have := ti_hi q2; have t500 : Int32.toInt 500 = 500 := rfl; have t0 : Int32.toInt 0 = 0 := rfl; have t1 : Int32.toInt 1 = 1 := rfl; have t2 : Int32.toInt 2 = 2 := rfl; have t36 : Int32.toInt 36 = 36 := rfl; rw [vp_in_iff]; (try simp only [true_or, or_true, true_and, and_true, z_tn, CellsOk, CallsOk, TextOk, MemOk, OutOk, Int32.lt_iff_toInt_lt, Int32.le_iff_toInt_le, ← Int32.toInt_inj, Int32.toInt_add, Int32.toInt_sub, Int32.toInt_mul, Int32.toInt_neg, zbm, zbm', t500, t0, t1, t2, t36] at c3 c4 c5 hi hw k1 k2 ⊢) <;> omega) d_Text_isNumber_37 ?_
            refine kN_pi (wr := [(h, .inr (7, [.ref a, .int tb, .int te, .int tw, .int tx])), (a, .inl (cI, 500, .inl tf))]) (zS (wc := []) (As := [.int (tf v3.toNatClampNeg)]) (rest := []) (st0 := [.int (tf v3.toNatClampNeg)]) ⟨hx, hb, hml, hown, hT⟩ (c_Text_digit l D cI cJ cZ cW cT H.size (tf v3.toNatClampNeg)) (va_cwS 1 hT (tbS ml_Text_67 sm_Text_digit in_Text co_Text_digit) rfl rfl rfl vs_Text_digit ⟨Nat.le_of_ble_eq_true rfl, Nat.le_of_ble_eq_true rfl⟩) hK hE hP hD hS hA [] rfl rfl rfl hl.1 rfl (Nat.le_of_ble_eq_true rfl) d_Text_isNumber_38 ⟨Nat.le_of_ble_eq_true rfl, Nat.le_of_ble_eq_true rfl⟩) hP hD hS hA [] [0, 1] rfl rfl rfl (by decide) [0, 1] rfl rfl (fun q6 H locs e6 k6 hP hD hS => ?_)
            have hP : va_P D classes [(h, .inr (7, [.ref a, .int tb, .int te, .int tw, .int tx])), (a, .inl (cI, 500, .inl tf))] H := hP
            have hD : va_D A [(h, .inr (7, [.ref a, .int tb, .int te, .int tw, .int tx])), (a, .inl (cI, 500, .inl tf))] := hD
            have hF := hF.trans (bd_e e6)
            refine lv_istore (lv' := [(4, .int q6), (3, .int v3), (2, .int q1), (0, .ref h), (1, .int x1)]) hx hb d_Text_isNumber_41 hl (by decide) rfl (fun ls hl => ?_)
            refine lv_iload hx hb d_Text_isNumber_43 (lv_at hl 0 rfl) ?_
            refine lv_iconst (v := (-1)) hx hb d_Text_isNumber_45 (by decide) ?_
            refine lv_icmp_eq (tgt := 55) hx hb d_Text_isNumber_46 (by decide) (fun c7 => ?_) (fun c7 => ?_)
            · have hF := hF.trans (if_pos c7)
              refine lv_iconst (v := 0) hx hb d_Text_isNumber_55 (by decide) ?_
              exact W.zret (v := 0) hx hb hr rfl (fun t ht hW => ⟨⟨_, (), rfl, ⟨hF.symm, (Or.inl rfl)⟩, ⟨by rw [ht]; exact hP, va_K.moved hW.alike hK, hD⟩⟩, hS.F ht⟩) hS.2.2 d_Text_isNumber_56
            · have hF := hF.trans (if_neg c7)
              refine lv_iload hx hb d_Text_isNumber_49 (lv_at hl 0 rfl) ?_
              refine lv_iload_n hx hb d_Text_isNumber_51 rfl (lv_at hl 4 rfl) ?_
              refine lv_icmp_lt (tgt := 57) hx hb d_Text_isNumber_52 (by decide) (fun c8 => ?_) (fun c8 => ?_)
              · have hF := hF.trans (if_pos c8)
                refine lv_iinc (v := v3 + 1) (lv' := [(3, .int (v3 + 1)), (4, .int q6), (2, .int q1), (0, .ref h), (1, .int x1)]) hx hb d_Text_isNumber_57 hl (k := 1) rfl rfl (by decide) rfl (fun ls hl => ?_)
                refine lv_goto (tgt := 24) hx hb d_Text_isNumber_60 (by decide) ?_
                exact ih (v3 + 1) (by have := ti_lo v3; have := ti_hi v3; have := ti_lo tb; have := ti_hi tb; have := ti_lo te; have := ti_hi te; have := ti_lo tw; have := ti_hi tw; have := ti_lo tx; have := ti_hi tx; have := ti_lo q1; have := ti_hi q1; have := ti_lo x1; have := ti_hi x1; have := ti_lo q2; have := ti_hi q2; have := ti_lo q6; have := ti_hi q6; have t1 : Int32.toInt 1 = 1 := rfl; have t0 : Int32.toInt 0 = 0 := rfl; have tm1 : Int32.toInt (-1) = -1 := rfl; have t2 : Int32.toInt 2 = 2 := rfl; have t36 : Int32.toInt 36 = 36 := rfl; (try simp only [true_or, or_true, true_and, and_true, z_tn, CellsOk, CallsOk, TextOk, MemOk, OutOk, Int32.lt_iff_toInt_lt, Int32.le_iff_toInt_le, ← Int32.toInt_inj, Int32.toInt_add, Int32.toInt_sub, Int32.toInt_mul, Int32.toInt_neg, zbm, zbm', t1, t0, tm1, t2, t36] at c3 c4 c5 c7 c8 hi hw k1 k2 hk ⊢) <;> omega) (by have := ti_lo v3; have := ti_hi v3; have := ti_lo tb; have := ti_hi tb; have := ti_lo te; have := ti_hi te; have := ti_lo tw; have := ti_hi tw; have := ti_lo tx; have := ti_hi tx; have := ti_lo q1; have := ti_hi q1; have := ti_lo x1; have := ti_hi x1; have := ti_lo q2; have := ti_hi q2; have := ti_lo q6; have := ti_hi q6; have t1 : Int32.toInt 1 = 1 := rfl; have t0 : Int32.toInt 0 = 0 := rfl; have tm1 : Int32.toInt (-1) = -1 := rfl; have t2 : Int32.toInt 2 = 2 := rfl; have t36 : Int32.toInt 36 = 36 := rfl; (try simp only [true_or, or_true, true_and, and_true, z_tn, CellsOk, CallsOk, TextOk, MemOk, OutOk, Int32.lt_iff_toInt_lt, Int32.le_iff_toInt_le, ← Int32.toInt_inj, Int32.toInt_add, Int32.toInt_sub, Int32.toInt_mul, Int32.toInt_neg, zbm, zbm', t1, t0, tm1, t2, t36] at c3 c4 c5 c7 c8 hi hw k1 k2 ⊢) <;> omega) _ _ _ hP hD hS (lv_sub hl [0, 2, 3, 4] rfl) hF
              · have hF := hF.trans (if_neg c8)
                refine lv_iconst (v := 0) hx hb d_Text_isNumber_55 (by decide) ?_
                exact W.zret (v := 0) hx hb hr rfl (fun t ht hW => ⟨⟨_, (), rfl, ⟨hF.symm, (Or.inl rfl)⟩, ⟨by rw [ht]; exact hP, va_K.moved hW.alike hK, hD⟩⟩, hS.F ht⟩) hS.2.2 d_Text_isNumber_56
      exact loop (((tx.toInt - q1.toInt).toNat) + 1) q1 (Nat.lt_succ_self _) k1.1 _ _ _ hP hD hS (lv_sub hl [0, 1, 2, 3] rfl) hF
    · have hF := hF.trans (if_neg c4)
      refine lv_iconst (v := 0) hx hb d_Text_isNumber_20 (by decide) ?_
      exact W.zret (v := 0) hx hb hr rfl (fun t ht hW => ⟨⟨_, (), rfl, ⟨hF.symm, (Or.inl rfl)⟩, ⟨by rw [ht]; exact hP, va_K.moved hW.alike hK, hD⟩⟩, hS.F ht⟩) hS.2.2 d_Text_isNumber_21
def F_Text_number_L10 (tw : Int32) (tx : Int32) (tf : Nat → Int32) (x1 : Int32) (q1 : Int32) : Nat → (Int32) → (Int32) → Int32
  | 0, _, _ => 0
  | k10 + 1, v4, v3 => if tx ≤ v4 then (if q1 = tw then v3 else (-v3)) else (bd (F_Text_digit (tf v4.toNatClampNeg)) (fun q4 => F_Text_number_L10 tw tx tf x1 q1 k10 (v4 + 1) ((v3 * x1) + q4)))
theorem F_Text_number_L10_s (tw : Int32) (tx : Int32) (tf : Nat → Int32) (x1 : Int32) (q1 : Int32) (k10 : Nat) (v4 : Int32) (v3 : Int32) : F_Text_number_L10 tw tx tf x1 q1 (k10 + 1) v4 v3 = if tx ≤ v4 then (if q1 = tw then v3 else (-v3)) else (bd (F_Text_digit (tf v4.toNatClampNeg)) (fun q4 => F_Text_number_L10 tw tx tf x1 q1 k10 (v4 + 1) ((v3 * x1) + q4))) := rfl
/-- the picture of ColonMachine$Text.number -/
def F_Text_number (tw : Int32) (tx : Int32) (tf : Nat → Int32) (x1 : Int32) : Int32 := bd (F_Text_digitsBegin tw tx tf) (fun q1 => F_Text_number_L10 tw tx tf x1 q1 (((tx.toInt - q1.toInt).toNat) + 1) q1 0)
theorem F_Text_number_e (tw : Int32) (tx : Int32) (tf : Nat → Int32) (x1 : Int32) : F_Text_number tw tx tf x1 = bd (F_Text_digitsBegin tw tx tf) (fun q1 => F_Text_number_L10 tw tx tf x1 q1 (((tx.toInt - q1.toInt).toNat) + 1) q1 0) := rfl
set_option maxHeartbeats 4000000 in
set_option maxRecDepth 100000 in
theorem c_Text_number (l : Launch) (D : va_G) (cI cJ cZ cW cT : ClassId) (sz : Nat) (h : Nat) (a : Nat) (tb : Int32) (te : Int32) (tw : Int32) (tx : Int32) (tf : Nat → Int32) (x1 : Int32) (hi : TextOk tb te tw tx) : Met l y_Text_number w_Text_number ({ frames := 1, cells := 0, slots := 0, locals := 21 }) (va_Pc [.ref h, .int x1] (zP D classes (TY cI cJ cZ cW cT) [(h, .inr (7, [.ref a, .int tb, .int te, .int tw, .int tx])), (a, .inl (cI, 500, .inl tf))] sz)) (va_Qi (fun (r : Int32) (_ : Unit) => r = F_Text_number tw tx tf x1 ∧ (True)) (fun _ => zB D classes (TY cI cJ cZ cW cT) (va_A [(h, .inr (7, [.ref a, .int tb, .int te, .int tw, .int tx])), (a, .inl (cI, 500, .inl tf))] sz) [(h, .inr (7, [.ref a, .int tb, .int te, .int tw, .int tx])), (a, .inl (cI, 500, .inl tf))]) (va_A [(h, .inr (7, [.ref a, .int tb, .int te, .int tw, .int tx])), (a, .inl (cI, 500, .inl tf))] sz)) 0 0 (va_A [(h, .inr (7, [.ref a, .int tb, .int te, .int tw, .int tx])), (a, .inl (cI, 500, .inl tf))] sz) := by
  refine Met.ofW (cc := b_Text_number) (maxL := 5) (ret := (some .int)) (by decide) rfl ?_
  intro p e s m args below meth c s₁ B hml hv
  obtain ⟨rfl, hsz, hP, hK, hD0, hE⟩ := hv
  have hx := B.exec
  have hb := B.bytes
  have hr := B.returns
  have hts := atoms_spec (ws := w_Text_number) B.pre
  have hT : ∀ w ∈ TB, w.before _ s = true := fun w h => hts w (List.mem_cons_of_mem _ h)
  have hown : s.vm.findClass "ColonMachine$Text" = some m.cls := findClass_of_methodNamed B.named
  have hlocks := B.notSynchronized
  subst hsz
  have hD := hD0.self (sz := s.heap.size)
  generalize hAe : va_A [(h, .inr (7, [.ref a, .int tb, .int te, .int tw, .int tx])), (a, .inl (cI, 500, .inl tf))] s.heap.size = A at hD hE ⊢
  have hA : ∀ q : Nat, s.heap.size ≤ q → A q := fun q h => by rw [← hAe]; exact Or.inr h
  have hS : va_S A s.heap s.heap [] := va_S.rf
  have hl := lv_entry [.ref h, .int x1] (n := 5) (Nat.le_of_ble_eq_true rfl)
  rw [lg_entry_eq]
  generalize (lg_sl [.ref h, .int x1] ++ List.replicate (5 - (lg_sl [.ref h, .int x1]).length) Slot.unset).toArray = ls at hl ⊢
  have hl : lv_has ls 5 [(0, .ref h), (1, .int x1)] := hl
  have hF := F_Text_number_e tw tx tf x1
  refine lv_aload_n hx hb d_Text_number_0 rfl (lv_at hl 0 rfl) ?_
  refine kN_pi (wr := []) (zV (wc := [(h, .inr (7, [.ref a, .int tb, .int te, .int tw, .int tx])), (a, .inl (cI, 500, .inl tf))]) (As := []) (rest := []) (st0 := [.ref h]) ⟨hx, hb, hml, hown, hT⟩ (c_Text_digitsBegin l D cI cJ cZ cW cT s.heap.size h a tb te tw tx tf hi) (cwV 0 hT (tbV ml_Text_58 im_Text_digitsBegin se_Text_digitsBegin in_Text co_Text_digitsBegin) rfl rfl rfl v_Text_digitsBegin ⟨Nat.le_of_ble_eq_true rfl, Nat.le_of_ble_eq_true rfl⟩) hK hE hP hD hS hA [0, 1] rfl rfl 0 rfl rfl rfl hl.1 rfl (Nat.le_of_ble_eq_true rfl) d_Text_number_1 ⟨Nat.le_of_ble_eq_true rfl, Nat.le_of_ble_eq_true rfl⟩) hP hD hS hA [0, 1] [] rfl rfl rfl (by decide) [0, 1] rfl rfl (fun q1 H locs e1 k1 hP hD hS => ?_)
  have hP : va_P D classes [(h, .inr (7, [.ref a, .int tb, .int te, .int tw, .int tx])), (a, .inl (cI, 500, .inl tf))] H := hP
  have hD : va_D A [(h, .inr (7, [.ref a, .int tb, .int te, .int tw, .int tx])), (a, .inl (cI, 500, .inl tf))] := hD
  have hF := hF.trans (bd_e e1)
  refine lv_istore_n (lv' := [(2, .int q1), (0, .ref h), (1, .int x1)]) hx hb d_Text_number_4 rfl hl (by decide) rfl (fun ls hl => ?_)
  refine lv_iconst (v := 0) hx hb d_Text_number_5 (by decide) ?_
  refine lv_istore_n (lv' := [(3, .int 0), (2, .int q1), (0, .ref h), (1, .int x1)]) hx hb d_Text_number_6 rfl hl (by decide) rfl (fun ls hl => ?_)
  refine lv_iload_n hx hb d_Text_number_7 rfl (lv_at hl 1 rfl) ?_
  refine lv_istore (lv' := [(4, .int q1), (3, .int 0), (2, .int q1), (0, .ref h), (1, .int x1)]) hx hb d_Text_number_8 hl (by decide) rfl (fun ls hl => ?_)
  have loop : ∀ (k10 : Nat) (v4 : Int32) (v3 : Int32) (hk : (tx.toInt - v4.toInt).toNat < k10) (hw : tw.toInt ≤ v4.toInt) (H : Heap) (locs : List Loc) (ls : Array Slot) (hP : va_P D classes [(h, .inr (7, [.ref a, .int tb, .int te, .int tw, .int tx])), (a, .inl (cI, 500, .inl tf))] H) (hD : va_D A [(h, .inr (7, [.ref a, .int tb, .int te, .int tw, .int tx])), (a, .inl (cI, 500, .inl tf))]) (hS : va_S A s.heap H locs) (hl : lv_has ls 5 [(4, .int v4), (3, .int v3), (2, .int q1), (0, .ref h), (1, .int x1)]) (hF : F_Text_number tw tx tf x1 = F_Text_number_L10 tw tx tf x1 q1 k10 v4 v3), W p l e (headSpec w_Text_number ({ frames := 1, cells := 0, slots := 0, locals := 21 })).room s m (List.toArray [.ref h, .int x1]) below meth c H locs 0 0 (MQ below (va_Qi (fun (r : Int32) (_ : Unit) => r = F_Text_number tw tx tf x1 ∧ (True)) (fun _ => zB D classes (TY cI cJ cZ cW cT) A [(h, .inr (7, [.ref a, .int tb, .int te, .int tw, .int tx])), (a, .inl (cI, 500, .inl tf))]) A) (List.toArray [.ref h, .int x1]) s 0 0 A) (F0 m 10 ls []) := by
    intro k10
    induction k10 with
    | zero => intro v4 v3 hk; exact absurd hk (Nat.not_lt_zero _)
    | succ k10 ih =>
      intro v4 v3 hk hw H locs ls hP hD hS hl hF
      have hF := hF.trans (F_Text_number_L10_s tw tx tf x1 q1 k10 v4 v3)
      refine lv_iload hx hb d_Text_number_10 (lv_at hl 0 rfl) ?_
      refine lv_aload_n hx hb d_Text_number_12 rfl (lv_at hl 3 rfl) ?_
      refine va_get (D := D) (v := .int tx) (C := "ColonMachine$Text") (T := T_Text) (N := 5) hx hb hT i_Text hown hK hP 0 rfl rfl 4 (by decide) (hT _ fl_Text_25) (fun _ h9 => h9) rfl d_Text_number_13 ?_
      refine lv_icmp_ge (tgt := 40) hx hb d_Text_number_16 (by decide) (fun c2 => ?_) (fun c2 => ?_)
      · have hF := hF.trans (if_pos c2)
        refine lv_iload_n hx hb d_Text_number_40 rfl (lv_at hl 2 rfl) ?_
        refine lv_aload_n hx hb d_Text_number_41 rfl (lv_at hl 3 rfl) ?_
        refine va_get (D := D) (v := .int tw) (C := "ColonMachine$Text") (T := T_Text) (N := 5) hx hb hT i_Text hown hK hP 0 rfl rfl 3 (by decide) (hT _ fl_Text_22) (fun _ h9 => h9) rfl d_Text_number_42 ?_
        refine lv_icmp_ne (tgt := 52) hx hb d_Text_number_45 (by decide) (fun c3 => ?_) (fun c3 => ?_)
        · have hF := hF.trans (if_neg c3)
          refine lv_iload_n hx hb d_Text_number_52 rfl (lv_at hl 1 rfl) ?_
          refine lv_ineg hx hb d_Text_number_53 ?_
          exact W.iret (v := -v3) hx hb hr (fun t ht hW => ⟨⟨_, (), rfl, ⟨hF.symm, trivial⟩, ⟨by rw [ht]; exact hP, va_K.moved hW.alike hK, hD⟩⟩, hS.F ht⟩) hS.2.2 d_Text_number_54
        · have hF := hF.trans (if_pos c3)
          refine lv_iload_n hx hb d_Text_number_48 rfl (lv_at hl 1 rfl) ?_
          refine lv_goto (tgt := 54) hx hb d_Text_number_49 (by decide) ?_
          exact W.iret (v := v3) hx hb hr (fun t ht hW => ⟨⟨_, (), rfl, ⟨hF.symm, trivial⟩, ⟨by rw [ht]; exact hP, va_K.moved hW.alike hK, hD⟩⟩, hS.F ht⟩) hS.2.2 d_Text_number_54
      · have hF := hF.trans (if_neg c2)
        refine lv_iload_n hx hb d_Text_number_19 rfl (lv_at hl 1 rfl) ?_
        refine lv_iload_n hx hb d_Text_number_20 rfl (lv_at hl 4 rfl) ?_
        refine lv_imul hx hb d_Text_number_21 ?_
        refine lv_aload_n hx hb d_Text_number_22 rfl (lv_at hl 3 rfl) ?_
        refine va_get (D := D) (v := .ref a) (C := "ColonMachine$Text") (T := T_Text) (N := 5) hx hb hT i_Text hown hK hP 0 rfl rfl 0 (by decide) (hT _ fl_Text_11) (fun _ h9 => h9) rfl d_Text_number_23 ?_
        refine lv_iload hx hb d_Text_number_26 (lv_at hl 0 rfl) ?_
        refine va_iald hx hb hK hP 1 0 rfl rfl (by have := ti_lo v4; have := ti_hi v4; have := ti_lo tb; have := ti_hi tb; have := ti_lo te; have := ti_hi te; have := ti_lo tw; have := ti_hi tw; have := ti_lo tx; have := ti_hi tx; have := ti_lo q1; have := ti_hi q1; have t500 : Int32.toInt 500 = 500 := rfl; have t1 : Int32.toInt 1 = 1 := rfl; rw [vp_in_iff]; (try simp only [true_or, or_true, true_and, and_true, z_tn, CellsOk, CallsOk, TextOk, MemOk, OutOk, Int32.lt_iff_toInt_lt, Int32.le_iff_toInt_le, ← Int32.toInt_inj, Int32.toInt_add, Int32.toInt_sub, Int32.toInt_mul, Int32.toInt_neg, zbm, zbm', t500, t1] at c2 hi hw k1 ⊢) <;> omega) d_Text_number_28 ?_
        refine kN_pi (wr := [(h, .inr (7, [.ref a, .int tb, .int te, .int tw, .int tx])), (a, .inl (cI, 500, .inl tf))]) (zS (wc := []) (As := [.int (tf v4.toNatClampNeg)]) (rest := [.int (v3 * x1)]) (st0 := [.int (tf v4.toNatClampNeg), .int (v3 * x1)]) ⟨hx, hb, hml, hown, hT⟩ (c_Text_digit l D cI cJ cZ cW cT H.size (tf v4.toNatClampNeg)) (va_cwS 1 hT (tbS ml_Text_67 sm_Text_digit in_Text co_Text_digit) rfl rfl rfl vs_Text_digit ⟨Nat.le_of_ble_eq_true rfl, Nat.le_of_ble_eq_true rfl⟩) hK hE hP hD hS hA [] rfl rfl rfl hl.1 rfl (Nat.le_of_ble_eq_true rfl) d_Text_number_29 ⟨Nat.le_of_ble_eq_true rfl, Nat.le_of_ble_eq_true rfl⟩) hP hD hS hA [] [0, 1] rfl rfl rfl (by decide) [0, 1] rfl rfl (fun q4 H locs e4 k4 hP hD hS => ?_)
        have hP : va_P D classes [(h, .inr (7, [.ref a, .int tb, .int te, .int tw, .int tx])), (a, .inl (cI, 500, .inl tf))] H := hP
        have hD : va_D A [(h, .inr (7, [.ref a, .int tb, .int te, .int tw, .int tx])), (a, .inl (cI, 500, .inl tf))] := hD
        have hF := hF.trans (bd_e e4)
        refine lv_iadd hx hb d_Text_number_32 ?_
        refine lv_istore_n (lv' := [(3, .int ((v3 * x1) + q4)), (4, .int v4), (2, .int q1), (0, .ref h), (1, .int x1)]) hx hb d_Text_number_33 rfl hl (by decide) rfl (fun ls hl => ?_)
        refine lv_iinc (v := v4 + 1) (lv' := [(4, .int (v4 + 1)), (3, .int ((v3 * x1) + q4)), (2, .int q1), (0, .ref h), (1, .int x1)]) hx hb d_Text_number_34 hl (k := 1) rfl rfl (by decide) rfl (fun ls hl => ?_)
        refine lv_goto (tgt := 10) hx hb d_Text_number_37 (by decide) ?_
        exact ih (v4 + 1) ((v3 * x1) + q4) (by have := ti_lo v4; have := ti_hi v4; have := ti_lo tb; have := ti_hi tb; have := ti_lo te; have := ti_hi te; have := ti_lo tw; have := ti_hi tw; have := ti_lo tx; have := ti_hi tx; have := ti_lo q1; have := ti_hi q1; have := ti_lo q4; have := ti_hi q4; have t1 : Int32.toInt 1 = 1 := rfl; (try simp only [true_or, or_true, true_and, and_true, z_tn, CellsOk, CallsOk, TextOk, MemOk, OutOk, Int32.lt_iff_toInt_lt, Int32.le_iff_toInt_le, ← Int32.toInt_inj, Int32.toInt_add, Int32.toInt_sub, Int32.toInt_mul, Int32.toInt_neg, zbm, zbm', t1] at c2 hi hw k1 hk ⊢) <;> omega) (by have := ti_lo v4; have := ti_hi v4; have := ti_lo tb; have := ti_hi tb; have := ti_lo te; have := ti_hi te; have := ti_lo tw; have := ti_hi tw; have := ti_lo tx; have := ti_hi tx; have := ti_lo q1; have := ti_hi q1; have := ti_lo q4; have := ti_hi q4; have t1 : Int32.toInt 1 = 1 := rfl; (try simp only [true_or, or_true, true_and, and_true, z_tn, CellsOk, CallsOk, TextOk, MemOk, OutOk, Int32.lt_iff_toInt_lt, Int32.le_iff_toInt_le, ← Int32.toInt_inj, Int32.toInt_add, Int32.toInt_sub, Int32.toInt_mul, Int32.toInt_neg, zbm, zbm', t1] at c2 hi hw k1 ⊢) <;> omega) _ _ _ hP hD hS (lv_sub hl [0, 1, 2, 3, 4] rfl) hF
  exact loop (((tx.toInt - q1.toInt).toNat) + 1) q1 0 (Nat.lt_succ_self _) k1.1 _ _ _ hP hD hS (lv_sub hl [0, 1, 2, 3, 4] rfl) hF
def F_Text_placeOf_L5 (te : Int32) (tf : Nat → Int32) (x1 : Int32) : Nat → (Int32) → Int32
  | 0, _ => 0
  | k5 + 1, v2 => if te ≤ v2 then (-1) else (if (tf v2.toNatClampNeg) = x1 then v2 else (F_Text_placeOf_L5 te tf x1 k5 (v2 + 1)))
theorem F_Text_placeOf_L5_s (te : Int32) (tf : Nat → Int32) (x1 : Int32) (k5 : Nat) (v2 : Int32) : F_Text_placeOf_L5 te tf x1 (k5 + 1) v2 = if te ≤ v2 then (-1) else (if (tf v2.toNatClampNeg) = x1 then v2 else (F_Text_placeOf_L5 te tf x1 k5 (v2 + 1))) := rfl
/-- the picture of ColonMachine$Text.placeOf -/
def F_Text_placeOf (tb : Int32) (te : Int32) (tf : Nat → Int32) (x1 : Int32) : Int32 := F_Text_placeOf_L5 te tf x1 (((te.toInt - tb.toInt).toNat) + 1) tb
theorem F_Text_placeOf_e (tb : Int32) (te : Int32) (tf : Nat → Int32) (x1 : Int32) : F_Text_placeOf tb te tf x1 = F_Text_placeOf_L5 te tf x1 (((te.toInt - tb.toInt).toNat) + 1) tb := rfl
set_option maxHeartbeats 4000000 in
set_option maxRecDepth 100000 in
theorem c_Text_placeOf (l : Launch) (D : va_G) (cI cJ cZ cW cT : ClassId) (sz : Nat) (h : Nat) (a : Nat) (tb : Int32) (te : Int32) (tw : Int32) (tx : Int32) (tf : Nat → Int32) (x1 : Int32) (hi : TextOk tb te tw tx) : Met l y_Text_placeOf w_Text_placeOf ({ frames := 0, cells := 0, slots := 0, locals := 0 }) (va_Pc [.ref h, .int x1] (zP D classes (TY cI cJ cZ cW cT) [(h, .inr (7, [.ref a, .int tb, .int te, .int tw, .int tx])), (a, .inl (cI, 500, .inl tf))] sz)) (va_Qi (fun (r : Int32) (_ : Unit) => r = F_Text_placeOf tb te tf x1 ∧ ((r.toInt = -1 ∨ tb.toInt ≤ r.toInt ∧ r.toInt < te.toInt))) (fun _ => zB D classes (TY cI cJ cZ cW cT) (va_A [(h, .inr (7, [.ref a, .int tb, .int te, .int tw, .int tx])), (a, .inl (cI, 500, .inl tf))] sz) [(h, .inr (7, [.ref a, .int tb, .int te, .int tw, .int tx])), (a, .inl (cI, 500, .inl tf))]) (va_A [(h, .inr (7, [.ref a, .int tb, .int te, .int tw, .int tx])), (a, .inl (cI, 500, .inl tf))] sz)) 0 0 (va_A [(h, .inr (7, [.ref a, .int tb, .int te, .int tw, .int tx])), (a, .inl (cI, 500, .inl tf))] sz) := by
  refine Met.ofW (cc := b_Text_placeOf) (maxL := 3) (ret := (some .int)) (by decide) rfl ?_
  intro p e s m args below meth c s₁ B hml hv
  obtain ⟨rfl, hsz, hP, hK, hD0, hE⟩ := hv
  have hx := B.exec
  have hb := B.bytes
  have hr := B.returns
  have hts := atoms_spec (ws := w_Text_placeOf) B.pre
  have hT : ∀ w ∈ TB, w.before _ s = true := fun w h => hts w (List.mem_cons_of_mem _ h)
  have hown : s.vm.findClass "ColonMachine$Text" = some m.cls := findClass_of_methodNamed B.named
  have hlocks := B.notSynchronized
  subst hsz
  have hD := hD0.self (sz := s.heap.size)
  generalize hAe : va_A [(h, .inr (7, [.ref a, .int tb, .int te, .int tw, .int tx])), (a, .inl (cI, 500, .inl tf))] s.heap.size = A at hD hE ⊢
  have hA : ∀ q : Nat, s.heap.size ≤ q → A q := fun q h => by rw [← hAe]; exact Or.inr h
  have hS : va_S A s.heap s.heap [] := va_S.rf
  have hl := lv_entry [.ref h, .int x1] (n := 3) (Nat.le_of_ble_eq_true rfl)
  rw [lg_entry_eq]
  generalize (lg_sl [.ref h, .int x1] ++ List.replicate (3 - (lg_sl [.ref h, .int x1]).length) Slot.unset).toArray = ls at hl ⊢
  have hl : lv_has ls 3 [(0, .ref h), (1, .int x1)] := hl
  have hF := F_Text_placeOf_e tb te tf x1
  refine lv_aload_n hx hb d_Text_placeOf_0 rfl (lv_at hl 0 rfl) ?_
  refine va_get (D := D) (v := .int tb) (C := "ColonMachine$Text") (T := T_Text) (N := 5) hx hb hT i_Text hown hK hP 0 rfl rfl 1 (by decide) (hT _ fl_Text_15) (fun _ h9 => h9) rfl d_Text_placeOf_1 ?_
  refine lv_istore_n (lv' := [(2, .int tb), (0, .ref h), (1, .int x1)]) hx hb d_Text_placeOf_4 rfl hl (by decide) rfl (fun ls hl => ?_)
  have loop : ∀ (k5 : Nat) (v2 : Int32) (hk : (te.toInt - v2.toInt).toNat < k5) (hw : tb.toInt ≤ v2.toInt) (H : Heap) (locs : List Loc) (ls : Array Slot) (hP : va_P D classes [(h, .inr (7, [.ref a, .int tb, .int te, .int tw, .int tx])), (a, .inl (cI, 500, .inl tf))] H) (hD : va_D A [(h, .inr (7, [.ref a, .int tb, .int te, .int tw, .int tx])), (a, .inl (cI, 500, .inl tf))]) (hS : va_S A s.heap H locs) (hl : lv_has ls 3 [(2, .int v2), (0, .ref h), (1, .int x1)]) (hF : F_Text_placeOf tb te tf x1 = F_Text_placeOf_L5 te tf x1 k5 v2), W p l e (headSpec w_Text_placeOf ({ frames := 0, cells := 0, slots := 0, locals := 0 })).room s m (List.toArray [.ref h, .int x1]) below meth c H locs 0 0 (MQ below (va_Qi (fun (r : Int32) (_ : Unit) => r = F_Text_placeOf tb te tf x1 ∧ ((r.toInt = -1 ∨ tb.toInt ≤ r.toInt ∧ r.toInt < te.toInt))) (fun _ => zB D classes (TY cI cJ cZ cW cT) A [(h, .inr (7, [.ref a, .int tb, .int te, .int tw, .int tx])), (a, .inl (cI, 500, .inl tf))]) A) (List.toArray [.ref h, .int x1]) s 0 0 A) (F0 m 5 ls []) := by
    intro k5
    induction k5 with
    | zero => intro v2 hk; exact absurd hk (Nat.not_lt_zero _)
    | succ k5 ih =>
      intro v2 hk hw H locs ls hP hD hS hl hF
      have hF := hF.trans (F_Text_placeOf_L5_s te tf x1 k5 v2)
      refine lv_iload_n hx hb d_Text_placeOf_5 rfl (lv_at hl 0 rfl) ?_
      refine lv_aload_n hx hb d_Text_placeOf_6 rfl (lv_at hl 1 rfl) ?_
      refine va_get (D := D) (v := .int te) (C := "ColonMachine$Text") (T := T_Text) (N := 5) hx hb hT i_Text hown hK hP 0 rfl rfl 2 (by decide) (hT _ fl_Text_19) (fun _ h9 => h9) rfl d_Text_placeOf_7 ?_
      refine lv_icmp_ge (tgt := 31) hx hb d_Text_placeOf_10 (by decide) (fun c1 => ?_) (fun c1 => ?_)
      · have hF := hF.trans (if_pos c1)
        refine lv_iconst (v := (-1)) hx hb d_Text_placeOf_31 (by decide) ?_
        exact W.iret (v := (-1)) hx hb hr (fun t ht hW => ⟨⟨_, (), rfl, ⟨hF.symm, (by have := ti_lo tb; have := ti_hi tb; have := ti_lo te; have := ti_hi te; have := ti_lo tw; have := ti_hi tw; have := ti_lo tx; have := ti_hi tx; have := ti_lo v2; have := ti_hi v2; have tm1 : Int32.toInt (-1) = -1 := rfl; have t1 : Int32.toInt 1 = 1 := rfl; (try simp only [true_or, or_true, true_and, and_true, z_tn, CellsOk, CallsOk, TextOk, MemOk, OutOk, Int32.lt_iff_toInt_lt, Int32.le_iff_toInt_le, ← Int32.toInt_inj, Int32.toInt_add, Int32.toInt_sub, Int32.toInt_mul, Int32.toInt_neg, zbm, zbm', tm1, t1] at c1 hi hw ⊢) <;> omega)⟩, ⟨by rw [ht]; exact hP, va_K.moved hW.alike hK, hD⟩⟩, hS.F ht⟩) hS.2.2 d_Text_placeOf_32
      · have hF := hF.trans (if_neg c1)
        refine lv_aload_n hx hb d_Text_placeOf_13 rfl (lv_at hl 1 rfl) ?_
        refine va_get (D := D) (v := .ref a) (C := "ColonMachine$Text") (T := T_Text) (N := 5) hx hb hT i_Text hown hK hP 0 rfl rfl 0 (by decide) (hT _ fl_Text_11) (fun _ h9 => h9) rfl d_Text_placeOf_14 ?_
        refine lv_iload_n hx hb d_Text_placeOf_17 rfl (lv_at hl 0 rfl) ?_
        refine va_iald hx hb hK hP 1 0 rfl rfl (by have := ti_lo v2; have := ti_hi v2; have := ti_lo tb; have := ti_hi tb; have := ti_lo te; have := ti_hi te; have := ti_lo tw; have := ti_hi tw; have := ti_lo tx; have := ti_hi tx; have t500 : Int32.toInt 500 = 500 := rfl; rw [vp_in_iff]; (try simp only [true_or, or_true, true_and, and_true, z_tn, CellsOk, CallsOk, TextOk, MemOk, OutOk, Int32.lt_iff_toInt_lt, Int32.le_iff_toInt_le, ← Int32.toInt_inj, Int32.toInt_add, Int32.toInt_sub, Int32.toInt_mul, Int32.toInt_neg, zbm, zbm', t500] at c1 hi hw ⊢) <;> omega) d_Text_placeOf_18 ?_
        refine lv_iload_n hx hb d_Text_placeOf_19 rfl (lv_at hl 2 rfl) ?_
        refine lv_icmp_ne (tgt := 25) hx hb d_Text_placeOf_20 (by decide) (fun c2 => ?_) (fun c2 => ?_)
        · have hF := hF.trans (if_neg c2)
          refine lv_iinc (v := v2 + 1) (lv' := [(2, .int (v2 + 1)), (0, .ref h), (1, .int x1)]) hx hb d_Text_placeOf_25 hl (k := 0) rfl rfl (by decide) rfl (fun ls hl => ?_)
          refine lv_goto (tgt := 5) hx hb d_Text_placeOf_28 (by decide) ?_
          exact ih (v2 + 1) (by have := ti_lo v2; have := ti_hi v2; have := ti_lo tb; have := ti_hi tb; have := ti_lo te; have := ti_hi te; have := ti_lo tw; have := ti_hi tw; have := ti_lo tx; have := ti_hi tx; have := ti_lo x1; have := ti_hi x1; have t1 : Int32.toInt 1 = 1 := rfl; (try simp only [true_or, or_true, true_and, and_true, z_tn, CellsOk, CallsOk, TextOk, MemOk, OutOk, Int32.lt_iff_toInt_lt, Int32.le_iff_toInt_le, ← Int32.toInt_inj, Int32.toInt_add, Int32.toInt_sub, Int32.toInt_mul, Int32.toInt_neg, zbm, zbm', t1] at c1 c2 hi hw hk ⊢) <;> omega) (by have := ti_lo v2; have := ti_hi v2; have := ti_lo tb; have := ti_hi tb; have := ti_lo te; have := ti_hi te; have := ti_lo tw; have := ti_hi tw; have := ti_lo tx; have := ti_hi tx; have := ti_lo x1; have := ti_hi x1; have t1 : Int32.toInt 1 = 1 := rfl; (try simp only [true_or, or_true, true_and, and_true, z_tn, CellsOk, CallsOk, TextOk, MemOk, OutOk, Int32.lt_iff_toInt_lt, Int32.le_iff_toInt_le, ← Int32.toInt_inj, Int32.toInt_add, Int32.toInt_sub, Int32.toInt_mul, Int32.toInt_neg, zbm, zbm', t1] at c1 c2 hi hw ⊢) <;> omega) _ _ _ hP hD hS (lv_sub hl [0, 1, 2] rfl) hF
        · have hF := hF.trans (if_pos c2)
          refine lv_iload_n hx hb d_Text_placeOf_23 rfl (lv_at hl 0 rfl) ?_
          exact W.iret (v := v2) hx hb hr (fun t ht hW => ⟨⟨_, (), rfl, ⟨hF.symm, (by have := ti_lo tb; have := ti_hi tb; have := ti_lo te; have := ti_hi te; have := ti_lo tw; have := ti_hi tw; have := ti_lo tx; have := ti_hi tx; have := ti_lo v2; have := ti_hi v2; have := ti_lo x1; have := ti_hi x1; have tm1 : Int32.toInt (-1) = -1 := rfl; have t1 : Int32.toInt 1 = 1 := rfl; (try simp only [true_or, or_true, true_and, and_true, z_tn, CellsOk, CallsOk, TextOk, MemOk, OutOk, Int32.lt_iff_toInt_lt, Int32.le_iff_toInt_le, ← Int32.toInt_inj, Int32.toInt_add, Int32.toInt_sub, Int32.toInt_mul, Int32.toInt_neg, zbm, zbm', tm1, t1] at c1 c2 hi hw ⊢) <;> omega)⟩, ⟨by rw [ht]; exact hP, va_K.moved hW.alike hK, hD⟩⟩, hS.F ht⟩) hS.2.2 d_Text_placeOf_24
  exact loop (((te.toInt - tb.toInt).toNat) + 1) tb (Nat.lt_succ_self _) (by have := ti_lo tb; have := ti_hi tb; have := ti_lo te; have := ti_hi te; have := ti_lo tw; have := ti_hi tw; have := ti_lo tx; have := ti_hi tx; (try simp only [true_or, or_true, true_and, and_true, z_tn, CellsOk, CallsOk, TextOk, MemOk, OutOk, Int32.lt_iff_toInt_lt, Int32.le_iff_toInt_le, ← Int32.toInt_inj, Int32.toInt_add, Int32.toInt_sub, Int32.toInt_mul, Int32.toInt_neg, zbm, zbm'] at hi ⊢) <;> omega) _ _ _ hP hD hS (lv_sub hl [0, 1, 2] rfl) hF
/-- the picture of ColonMachine$Text.skipBehind -/
def F_Text_skipBehind (tb : Int32) (te : Int32) (tf : Nat → Int32) (x1 : Int32) : Int32 := bd (F_Text_placeOf tb te tf x1) (fun q1 => if q1 = (-1) then te else (q1 + 1))
theorem F_Text_skipBehind_e (tb : Int32) (te : Int32) (tf : Nat → Int32) (x1 : Int32) : F_Text_skipBehind tb te tf x1 = bd (F_Text_placeOf tb te tf x1) (fun q1 => if q1 = (-1) then te else (q1 + 1)) := rfl
set_option maxHeartbeats 4000000 in
set_option maxRecDepth 100000 in
theorem c_Text_skipBehind (l : Launch) (D : va_G) (cI cJ cZ cW cT : ClassId) (sz : Nat) (h : Nat) (a : Nat) (tb : Int32) (te : Int32) (tw : Int32) (tx : Int32) (tf : Nat → Int32) (x1 : Int32) (hi : TextOk tb te tw tx) : Met l y_Text_skipBehind w_Text_skipBehind ({ frames := 1, cells := 0, slots := 0, locals := 22 }) (va_Pc [.ref h, .int x1] (zP D classes (TY cI cJ cZ cW cT) [(h, .inr (7, [.ref a, .int tb, .int te, .int tw, .int tx])), (a, .inl (cI, 500, .inl tf))] sz)) (va_Qv (fun u : Int32 => u = F_Text_skipBehind tb te tf x1 ∧ ((TextOk u te tw tx))) (fun u => zB D classes (TY cI cJ cZ cW cT) (va_A [(h, .inr (7, [.ref a, .int tb, .int te, .int tw, .int tx])), (a, .inl (cI, 500, .inl tf))] sz) [(h, .inr (7, [.ref a, .int u, .int te, .int tw, .int tx])), (a, .inl (cI, 500, .inl tf))]) (va_A [(h, .inr (7, [.ref a, .int tb, .int te, .int tw, .int tx])), (a, .inl (cI, 500, .inl tf))] sz)) 0 0 (va_A [(h, .inr (7, [.ref a, .int tb, .int te, .int tw, .int tx])), (a, .inl (cI, 500, .inl tf))] sz) := by
  refine Met.ofW (cc := b_Text_skipBehind) (maxL := 3) (ret := none) (by decide) rfl ?_
  intro p e s m args below meth c s₁ B hml hv
  obtain ⟨rfl, hsz, hP, hK, hD0, hE⟩ := hv
  have hx := B.exec
  have hb := B.bytes
  have hr := B.returns
  have hts := atoms_spec (ws := w_Text_skipBehind) B.pre
  have hT : ∀ w ∈ TB, w.before _ s = true := fun w h => hts w (List.mem_cons_of_mem _ h)
  have hown : s.vm.findClass "ColonMachine$Text" = some m.cls := findClass_of_methodNamed B.named
  have hlocks := B.notSynchronized
  subst hsz
  have hD := hD0.self (sz := s.heap.size)
  generalize hAe : va_A [(h, .inr (7, [.ref a, .int tb, .int te, .int tw, .int tx])), (a, .inl (cI, 500, .inl tf))] s.heap.size = A at hD hE ⊢
  have hA : ∀ q : Nat, s.heap.size ≤ q → A q := fun q h => by rw [← hAe]; exact Or.inr h
  have hS : va_S A s.heap s.heap [] := va_S.rf
  have hl := lv_entry [.ref h, .int x1] (n := 3) (Nat.le_of_ble_eq_true rfl)
  rw [lg_entry_eq]
  generalize (lg_sl [.ref h, .int x1] ++ List.replicate (3 - (lg_sl [.ref h, .int x1]).length) Slot.unset).toArray = ls at hl ⊢
  have hl : lv_has ls 3 [(0, .ref h), (1, .int x1)] := hl
  have hF := F_Text_skipBehind_e tb te tf x1
  refine lv_aload_n hx hb d_Text_skipBehind_0 rfl (lv_at hl 0 rfl) ?_
  refine lv_iload_n hx hb d_Text_skipBehind_1 rfl (lv_at hl 1 rfl) ?_
  refine kN_pi (wr := []) (zV (wc := [(h, .inr (7, [.ref a, .int tb, .int te, .int tw, .int tx])), (a, .inl (cI, 500, .inl tf))]) (As := [.int x1]) (rest := []) (st0 := [.int x1, .ref h]) ⟨hx, hb, hml, hown, hT⟩ (c_Text_placeOf l D cI cJ cZ cW cT s.heap.size h a tb te tw tx tf x1 hi) (cwV 1 hT (tbV ml_Text_70 im_Text_placeOf se_Text_placeOf in_Text co_Text_placeOf) rfl rfl rfl v_Text_placeOf ⟨Nat.le_of_ble_eq_true rfl, Nat.le_of_ble_eq_true rfl⟩) hK hE hP hD hS hA [0, 1] rfl rfl 0 rfl rfl rfl hl.1 rfl (Nat.le_of_ble_eq_true rfl) d_Text_skipBehind_2 ⟨Nat.le_of_ble_eq_true rfl, Nat.le_of_ble_eq_true rfl⟩) hP hD hS hA [0, 1] [] rfl rfl rfl (by decide) [0, 1] rfl rfl (fun q1 H locs e1 k1 hP hD hS => ?_)
  have hP : va_P D classes [(h, .inr (7, [.ref a, .int tb, .int te, .int tw, .int tx])), (a, .inl (cI, 500, .inl tf))] H := hP
  have hD : va_D A [(h, .inr (7, [.ref a, .int tb, .int te, .int tw, .int tx])), (a, .inl (cI, 500, .inl tf))] := hD
  have hF := hF.trans (bd_e e1)
  refine lv_istore_n (lv' := [(2, .int q1), (0, .ref h), (1, .int x1)]) hx hb d_Text_skipBehind_5 rfl hl (by decide) rfl (fun ls hl => ?_)
  refine lv_aload_n hx hb d_Text_skipBehind_6 rfl (lv_at hl 1 rfl) ?_
  refine lv_iload_n hx hb d_Text_skipBehind_7 rfl (lv_at hl 0 rfl) ?_
  refine lv_iconst (v := (-1)) hx hb d_Text_skipBehind_8 (by decide) ?_
  refine lv_icmp_ne (tgt := 19) hx hb d_Text_skipBehind_9 (by decide) (fun c2 => ?_) (fun c2 => ?_)
  · have hF := hF.trans (if_neg c2)
    refine lv_iload_n hx hb d_Text_skipBehind_19 rfl (lv_at hl 0 rfl) ?_
    refine lv_iconst (v := 1) hx hb d_Text_skipBehind_20 (by decide) ?_
    refine lv_iadd hx hb d_Text_skipBehind_21 ?_
    refine va_put (D := D) (v := .int (q1 + 1)) (ty := .int) (C := "ColonMachine$Text") (T := T_Text) (N := 5) hx hb hT i_Text t_Text tk_Text n_Text hown hK hP hD hS 0 rfl rfl 1 (by decide) (hT _ fl_Text_15) (fun _ h9 => h9) rfl (by decide +kernel) rfl rfl (Nat.le_of_ble_eq_true rfl) d_Text_skipBehind_22 (fun H locs hP hD hS => ?_)
    have hP : va_P D classes [(h, .inr (7, [.ref a, .int (q1 + 1), .int te, .int tw, .int tx])), (a, .inl (cI, 500, .inl tf))] H := hP
    have hD : va_D A [(h, .inr (7, [.ref a, .int (q1 + 1), .int te, .int tw, .int tx])), (a, .inl (cI, 500, .inl tf))] := hD
    exact W.vret hx hb hr (fun t ht hW => ⟨⟨_, rfl, ⟨hF.symm, (by have := ti_lo q1; have := ti_hi q1; have := ti_lo te; have := ti_hi te; have := ti_lo tw; have := ti_hi tw; have := ti_lo tx; have := ti_hi tx; have := ti_lo tb; have := ti_hi tb; have := ti_lo x1; have := ti_hi x1; have t1 : Int32.toInt 1 = 1 := rfl; have tm1 : Int32.toInt (-1) = -1 := rfl; (try simp only [true_or, or_true, true_and, and_true, z_tn, CellsOk, CallsOk, TextOk, MemOk, OutOk, Int32.lt_iff_toInt_lt, Int32.le_iff_toInt_le, ← Int32.toInt_inj, Int32.toInt_add, Int32.toInt_sub, Int32.toInt_mul, Int32.toInt_neg, zbm, zbm', t1, tm1] at c2 hi k1 ⊢) <;> omega)⟩, ⟨by rw [ht]; exact hP, va_K.moved hW.alike hK, hD⟩⟩, hS.F ht⟩) hS.2.2 d_Text_skipBehind_25
  · have hF := hF.trans (if_pos c2)
    refine lv_aload_n hx hb d_Text_skipBehind_12 rfl (lv_at hl 1 rfl) ?_
    refine va_get (D := D) (v := .int te) (C := "ColonMachine$Text") (T := T_Text) (N := 5) hx hb hT i_Text hown hK hP 0 rfl rfl 2 (by decide) (hT _ fl_Text_19) (fun _ h9 => h9) rfl d_Text_skipBehind_13 ?_
    refine lv_goto (tgt := 22) hx hb d_Text_skipBehind_16 (by decide) ?_
    refine va_put (D := D) (v := .int te) (ty := .int) (C := "ColonMachine$Text") (T := T_Text) (N := 5) hx hb hT i_Text t_Text tk_Text n_Text hown hK hP hD hS 0 rfl rfl 1 (by decide) (hT _ fl_Text_15) (fun _ h9 => h9) rfl (by decide +kernel) rfl rfl (Nat.le_of_ble_eq_true rfl) d_Text_skipBehind_22 (fun H locs hP hD hS => ?_)
    have hP : va_P D classes [(h, .inr (7, [.ref a, .int te, .int te, .int tw, .int tx])), (a, .inl (cI, 500, .inl tf))] H := hP
    have hD : va_D A [(h, .inr (7, [.ref a, .int te, .int te, .int tw, .int tx])), (a, .inl (cI, 500, .inl tf))] := hD
    exact W.vret hx hb hr (fun t ht hW => ⟨⟨_, rfl, ⟨hF.symm, (by have := ti_lo te; have := ti_hi te; have := ti_lo tw; have := ti_hi tw; have := ti_lo tx; have := ti_hi tx; have := ti_lo tb; have := ti_hi tb; have := ti_lo x1; have := ti_hi x1; have := ti_lo q1; have := ti_hi q1; have tm1 : Int32.toInt (-1) = -1 := rfl; have t1 : Int32.toInt 1 = 1 := rfl; (try simp only [true_or, or_true, true_and, and_true, z_tn, CellsOk, CallsOk, TextOk, MemOk, OutOk, Int32.lt_iff_toInt_lt, Int32.le_iff_toInt_le, ← Int32.toInt_inj, Int32.toInt_add, Int32.toInt_sub, Int32.toInt_mul, Int32.toInt_neg, zbm, zbm', tm1, t1] at c2 hi k1 ⊢) <;> omega)⟩, ⟨by rw [ht]; exact hP, va_K.moved hW.alike hK, hD⟩⟩, hS.F ht⟩) hS.2.2 d_Text_skipBehind_25
