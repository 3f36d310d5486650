theorem co_Cells_size : (Jvm.Cond.code ({ cls := "ColonMachine$Cells", name := "size", desc := "()I" } : Jvm.MethodName) prog_3_method_2_code (1 : Nat) (Option.some Jvm.ClassFile.FieldType.int)) ∈ TB := tbI2 _ (List.mem_of_getElem? (i := 12) rfl) rfl
theorem fl_Cells_7 : (Jvm.Cond.fieldLink "ColonMachine$Cells" (7 : Nat) "ColonMachine$Cells" "size" "I") ∈ TB := tbI1 _ (List.mem_of_getElem? (i := 46) rfl) rfl
theorem co_Cells_has : (Jvm.Cond.code ({ cls := "ColonMachine$Cells", name := "has", desc := "(I)Z" } : Jvm.MethodName) prog_3_method_3_code (2 : Nat) (Option.some Jvm.ClassFile.FieldType.boolean)) ∈ TB := tbI3 _ (List.mem_of_getElem? (i := 68) rfl) rfl
theorem co_Cells_hasRoomFor : (Jvm.Cond.code ({ cls := "ColonMachine$Cells", name := "hasRoomFor", desc := "(I)Z" } : Jvm.MethodName) prog_3_method_4_code (2 : Nat) (Option.some Jvm.ClassFile.FieldType.boolean)) ∈ TB := tbI4 _ (List.mem_of_getElem? (i := 209) rfl) rfl
theorem fl_Cells_13 : (Jvm.Cond.fieldLink "ColonMachine$Cells" (13 : Nat) "ColonMachine$Cells" "cells" "[I") ∈ TB := tbI1 _ (List.mem_of_getElem? (i := 45) rfl) rfl
theorem co_Cells_put : (Jvm.Cond.code ({ cls := "ColonMachine$Cells", name := "put", desc := "(I)V" } : Jvm.MethodName) prog_3_method_5_code (2 : Nat) (Option.none : Option Jvm.ClassFile.FieldType)) ∈ TB := tbI4 _ (List.mem_of_getElem? (i := 234) rfl) rfl
theorem co_Cells_take : (Jvm.Cond.code ({ cls := "ColonMachine$Cells", name := "take", desc := "()I" } : Jvm.MethodName) prog_3_method_6_code (1 : Nat) (Option.some Jvm.ClassFile.FieldType.int)) ∈ TB := tbI5 _ (List.mem_of_getElem? (i := 10) rfl) rfl
theorem co_Cells_drop : (Jvm.Cond.code ({ cls := "ColonMachine$Cells", name := "drop", desc := "(I)V" } : Jvm.MethodName) prog_3_method_7_code (2 : Nat) (Option.none : Option Jvm.ClassFile.FieldType)) ∈ TB := tbI5 _ (List.mem_of_getElem? (i := 6) rfl) rfl
theorem co_Cells_at : (Jvm.Cond.code ({ cls := "ColonMachine$Cells", name := "at", desc := "(I)I" } : Jvm.MethodName) prog_3_method_8_code (2 : Nat) (Option.some Jvm.ClassFile.FieldType.int)) ∈ TB := tbI4 _ (List.mem_of_getElem? (i := 217) rfl) rfl
theorem co_Cells_set : (Jvm.Cond.code ({ cls := "ColonMachine$Cells", name := "set", desc := "(II)V" } : Jvm.MethodName) prog_3_method_9_code (3 : Nat) (Option.none : Option Jvm.ClassFile.FieldType)) ∈ TB := tbI5 _ (List.mem_of_getElem? (i := 131) rfl) rfl
abbrev b_Cells_size : ByteArray := prog_3_method_2_code
def y_Cells_size : MethodName := { cls := "ColonMachine$Cells", name := "size", desc := "()I" }
abbrev w_Cells_size : List Cond := .code y_Cells_size b_Cells_size 1 (Option.some Jvm.ClassFile.FieldType.int) :: TB
abbrev b_Cells_has : ByteArray := prog_3_method_3_code
def y_Cells_has : MethodName := { cls := "ColonMachine$Cells", name := "has", desc := "(I)Z" }
abbrev w_Cells_has : List Cond := .code y_Cells_has b_Cells_has 2 (Option.some Jvm.ClassFile.FieldType.boolean) :: TB
abbrev b_Cells_hasRoomFor : ByteArray := prog_3_method_4_code
def y_Cells_hasRoomFor : MethodName := { cls := "ColonMachine$Cells", name := "hasRoomFor", desc := "(I)Z" }
abbrev w_Cells_hasRoomFor : List Cond := .code y_Cells_hasRoomFor b_Cells_hasRoomFor 2 (Option.some Jvm.ClassFile.FieldType.boolean) :: TB
abbrev b_Cells_put : ByteArray := prog_3_method_5_code
def y_Cells_put : MethodName := { cls := "ColonMachine$Cells", name := "put", desc := "(I)V" }
abbrev w_Cells_put : List Cond := .code y_Cells_put b_Cells_put 2 (Option.none : Option Jvm.ClassFile.FieldType) :: TB
abbrev b_Cells_take : ByteArray := prog_3_method_6_code
def y_Cells_take : MethodName := { cls := "ColonMachine$Cells", name := "take", desc := "()I" }
abbrev w_Cells_take : List Cond := .code y_Cells_take b_Cells_take 1 (Option.some Jvm.ClassFile.FieldType.int) :: TB
abbrev b_Cells_drop : ByteArray := prog_3_method_7_code
def y_Cells_drop : MethodName := { cls := "ColonMachine$Cells", name := "drop", desc := "(I)V" }
abbrev w_Cells_drop : List Cond := .code y_Cells_drop b_Cells_drop 2 (Option.none : Option Jvm.ClassFile.FieldType) :: TB
abbrev b_Cells_at : ByteArray := prog_3_method_8_code
def y_Cells_at : MethodName := { cls := "ColonMachine$Cells", name := "at", desc := "(I)I" }
abbrev w_Cells_at : List Cond := .code y_Cells_at b_Cells_at 2 (Option.some Jvm.ClassFile.FieldType.int) :: TB
abbrev b_Cells_set : ByteArray := prog_3_method_9_code
def y_Cells_set : MethodName := { cls := "ColonMachine$Cells", name := "set", desc := "(II)V" }
abbrev w_Cells_set : List Cond := .code y_Cells_set b_Cells_set 3 (Option.none : Option Jvm.ClassFile.FieldType) :: TB
theorem d_Cells_size_0 : decode b_Cells_size 0 = .ok (.aload_n 0, 1) := by decide +kernel
theorem d_Cells_size_1 : decode b_Cells_size 1 = .ok (.getfield 7, 3) := by decide +kernel
theorem d_Cells_size_4 : decode b_Cells_size 4 = .ok (.ireturn, 1) := by decide +kernel
theorem d_Cells_has_0 : decode b_Cells_has 0 = .ok (.aload_n 0, 1) := by decide +kernel
theorem d_Cells_has_1 : decode b_Cells_has 1 = .ok (.getfield 7, 3) := by decide +kernel
theorem d_Cells_has_4 : decode b_Cells_has 4 = .ok (.iload_n 1, 1) := by decide +kernel
theorem d_Cells_has_5 : decode b_Cells_has 5 = .ok (.if_icmp .lt 7, 3) := by decide +kernel
theorem d_Cells_has_12 : decode b_Cells_has 12 = .ok (.iconst 0, 1) := by decide +kernel
theorem d_Cells_has_13 : decode b_Cells_has 13 = .ok (.ireturn, 1) := by decide +kernel
theorem d_Cells_has_8 : decode b_Cells_has 8 = .ok (.iconst 1, 1) := by decide +kernel
theorem d_Cells_has_9 : decode b_Cells_has 9 = .ok (.goto 4, 3) := by decide +kernel
theorem d_Cells_hasRoomFor_0 : decode b_Cells_hasRoomFor 0 = .ok (.iload_n 1, 1) := by decide +kernel
theorem d_Cells_hasRoomFor_1 : decode b_Cells_hasRoomFor 1 = .ok (.aload_n 0, 1) := by decide +kernel
theorem d_Cells_hasRoomFor_2 : decode b_Cells_hasRoomFor 2 = .ok (.getfield 13, 3) := by decide +kernel
theorem d_Cells_hasRoomFor_5 : decode b_Cells_hasRoomFor 5 = .ok (.arraylength, 1) := by decide +kernel
theorem d_Cells_hasRoomFor_6 : decode b_Cells_hasRoomFor 6 = .ok (.aload_n 0, 1) := by decide +kernel
theorem d_Cells_hasRoomFor_7 : decode b_Cells_hasRoomFor 7 = .ok (.getfield 7, 3) := by decide +kernel
theorem d_Cells_hasRoomFor_10 : decode b_Cells_hasRoomFor 10 = .ok (.isub, 1) := by decide +kernel
theorem d_Cells_hasRoomFor_11 : decode b_Cells_hasRoomFor 11 = .ok (.if_icmp .gt 7, 3) := by decide +kernel
theorem d_Cells_hasRoomFor_18 : decode b_Cells_hasRoomFor 18 = .ok (.iconst 0, 1) := by decide +kernel
theorem d_Cells_hasRoomFor_19 : decode b_Cells_hasRoomFor 19 = .ok (.ireturn, 1) := by decide +kernel
theorem d_Cells_hasRoomFor_14 : decode b_Cells_hasRoomFor 14 = .ok (.iconst 1, 1) := by decide +kernel
theorem d_Cells_hasRoomFor_15 : decode b_Cells_hasRoomFor 15 = .ok (.goto 4, 3) := by decide +kernel
theorem d_Cells_put_0 : decode b_Cells_put 0 = .ok (.aload_n 0, 1) := by decide +kernel
theorem d_Cells_put_1 : decode b_Cells_put 1 = .ok (.getfield 7, 3) := by decide +kernel
theorem d_Cells_put_4 : decode b_Cells_put 4 = .ok (.aload_n 0, 1) := by decide +kernel
theorem d_Cells_put_5 : decode b_Cells_put 5 = .ok (.getfield 13, 3) := by decide +kernel
theorem d_Cells_put_8 : decode b_Cells_put 8 = .ok (.arraylength, 1) := by decide +kernel
theorem d_Cells_put_9 : decode b_Cells_put 9 = .ok (.if_icmp .ge 23, 3) := by decide +kernel
theorem d_Cells_put_32 : decode b_Cells_put 32 = .ok (.return_, 1) := by decide +kernel
theorem d_Cells_put_12 : decode b_Cells_put 12 = .ok (.aload_n 0, 1) := by decide +kernel
theorem d_Cells_put_13 : decode b_Cells_put 13 = .ok (.getfield 13, 3) := by decide +kernel
theorem d_Cells_put_16 : decode b_Cells_put 16 = .ok (.aload_n 0, 1) := by decide +kernel
theorem d_Cells_put_17 : decode b_Cells_put 17 = .ok (.getfield 7, 3) := by decide +kernel
theorem d_Cells_put_20 : decode b_Cells_put 20 = .ok (.iload_n 1, 1) := by decide +kernel
theorem d_Cells_put_21 : decode b_Cells_put 21 = .ok (.iastore, 1) := by decide +kernel
theorem d_Cells_put_22 : decode b_Cells_put 22 = .ok (.aload_n 0, 1) := by decide +kernel
theorem d_Cells_put_23 : decode b_Cells_put 23 = .ok (.dup, 1) := by decide +kernel
theorem d_Cells_put_24 : decode b_Cells_put 24 = .ok (.getfield 7, 3) := by decide +kernel
theorem d_Cells_put_27 : decode b_Cells_put 27 = .ok (.iconst 1, 1) := by decide +kernel
theorem d_Cells_put_28 : decode b_Cells_put 28 = .ok (.iadd, 1) := by decide +kernel
theorem d_Cells_put_29 : decode b_Cells_put 29 = .ok (.putfield 7, 3) := by decide +kernel
theorem d_Cells_take_0 : decode b_Cells_take 0 = .ok (.aload_n 0, 1) := by decide +kernel
theorem d_Cells_take_1 : decode b_Cells_take 1 = .ok (.getfield 7, 3) := by decide +kernel
theorem d_Cells_take_4 : decode b_Cells_take 4 = .ok (.iconst 1, 1) := by decide +kernel
theorem d_Cells_take_5 : decode b_Cells_take 5 = .ok (.if_icmp .ge 5, 3) := by decide +kernel
theorem d_Cells_take_10 : decode b_Cells_take 10 = .ok (.aload_n 0, 1) := by decide +kernel
theorem d_Cells_take_11 : decode b_Cells_take 11 = .ok (.dup, 1) := by decide +kernel
theorem d_Cells_take_12 : decode b_Cells_take 12 = .ok (.getfield 7, 3) := by decide +kernel
theorem d_Cells_take_15 : decode b_Cells_take 15 = .ok (.iconst 1, 1) := by decide +kernel
theorem d_Cells_take_16 : decode b_Cells_take 16 = .ok (.isub, 1) := by decide +kernel
theorem d_Cells_take_17 : decode b_Cells_take 17 = .ok (.putfield 7, 3) := by decide +kernel
theorem d_Cells_take_20 : decode b_Cells_take 20 = .ok (.aload_n 0, 1) := by decide +kernel
theorem d_Cells_take_21 : decode b_Cells_take 21 = .ok (.getfield 13, 3) := by decide +kernel
theorem d_Cells_take_24 : decode b_Cells_take 24 = .ok (.aload_n 0, 1) := by decide +kernel
theorem d_Cells_take_25 : decode b_Cells_take 25 = .ok (.getfield 7, 3) := by decide +kernel
theorem d_Cells_take_28 : decode b_Cells_take 28 = .ok (.iaload, 1) := by decide +kernel
theorem d_Cells_take_29 : decode b_Cells_take 29 = .ok (.ireturn, 1) := by decide +kernel
theorem d_Cells_take_8 : decode b_Cells_take 8 = .ok (.iconst 0, 1) := by decide +kernel
theorem d_Cells_take_9 : decode b_Cells_take 9 = .ok (.ireturn, 1) := by decide +kernel
theorem d_Cells_drop_0 : decode b_Cells_drop 0 = .ok (.aload_n 0, 1) := by decide +kernel
theorem d_Cells_drop_1 : decode b_Cells_drop 1 = .ok (.iload_n 1, 1) := by decide +kernel
theorem d_Cells_drop_2 : decode b_Cells_drop 2 = .ok (.aload_n 0, 1) := by decide +kernel
theorem d_Cells_drop_3 : decode b_Cells_drop 3 = .ok (.getfield 7, 3) := by decide +kernel
theorem d_Cells_drop_6 : decode b_Cells_drop 6 = .ok (.if_icmp .ge 12, 3) := by decide +kernel
theorem d_Cells_drop_18 : decode b_Cells_drop 18 = .ok (.iconst 0, 1) := by decide +kernel
theorem d_Cells_drop_19 : decode b_Cells_drop 19 = .ok (.putfield 7, 3) := by decide +kernel
theorem d_Cells_drop_22 : decode b_Cells_drop 22 = .ok (.return_, 1) := by decide +kernel
theorem d_Cells_drop_9 : decode b_Cells_drop 9 = .ok (.aload_n 0, 1) := by decide +kernel
theorem d_Cells_drop_10 : decode b_Cells_drop 10 = .ok (.getfield 7, 3) := by decide +kernel
theorem d_Cells_drop_13 : decode b_Cells_drop 13 = .ok (.iload_n 1, 1) := by decide +kernel
theorem d_Cells_drop_14 : decode b_Cells_drop 14 = .ok (.isub, 1) := by decide +kernel
theorem d_Cells_drop_15 : decode b_Cells_drop 15 = .ok (.goto 4, 3) := by decide +kernel
theorem d_Cells_at_0 : decode b_Cells_at 0 = .ok (.iload_n 1, 1) := by decide +kernel
theorem d_Cells_at_1 : decode b_Cells_at 1 = .ok (.ifCond .lt 27, 3) := by decide +kernel
theorem d_Cells_at_28 : decode b_Cells_at 28 = .ok (.iconst 0, 1) := by decide +kernel
theorem d_Cells_at_29 : decode b_Cells_at 29 = .ok (.ireturn, 1) := by decide +kernel
theorem d_Cells_at_4 : decode b_Cells_at 4 = .ok (.iload_n 1, 1) := by decide +kernel
theorem d_Cells_at_5 : decode b_Cells_at 5 = .ok (.aload_n 0, 1) := by decide +kernel
theorem d_Cells_at_6 : decode b_Cells_at 6 = .ok (.getfield 7, 3) := by decide +kernel
theorem d_Cells_at_9 : decode b_Cells_at 9 = .ok (.if_icmp .ge 19, 3) := by decide +kernel
theorem d_Cells_at_12 : decode b_Cells_at 12 = .ok (.aload_n 0, 1) := by decide +kernel
theorem d_Cells_at_13 : decode b_Cells_at 13 = .ok (.getfield 13, 3) := by decide +kernel
theorem d_Cells_at_16 : decode b_Cells_at 16 = .ok (.aload_n 0, 1) := by decide +kernel
theorem d_Cells_at_17 : decode b_Cells_at 17 = .ok (.getfield 7, 3) := by decide +kernel
theorem d_Cells_at_20 : decode b_Cells_at 20 = .ok (.iconst 1, 1) := by decide +kernel
theorem d_Cells_at_21 : decode b_Cells_at 21 = .ok (.isub, 1) := by decide +kernel
theorem d_Cells_at_22 : decode b_Cells_at 22 = .ok (.iload_n 1, 1) := by decide +kernel
theorem d_Cells_at_23 : decode b_Cells_at 23 = .ok (.isub, 1) := by decide +kernel
theorem d_Cells_at_24 : decode b_Cells_at 24 = .ok (.iaload, 1) := by decide +kernel
theorem d_Cells_at_25 : decode b_Cells_at 25 = .ok (.goto 4, 3) := by decide +kernel
theorem d_Cells_set_0 : decode b_Cells_set 0 = .ok (.iload_n 1, 1) := by decide +kernel
theorem d_Cells_set_1 : decode b_Cells_set 1 = .ok (.ifCond .lt 25, 3) := by decide +kernel
theorem d_Cells_set_26 : decode b_Cells_set 26 = .ok (.return_, 1) := by decide +kernel
theorem d_Cells_set_4 : decode b_Cells_set 4 = .ok (.iload_n 1, 1) := by decide +kernel
theorem d_Cells_set_5 : decode b_Cells_set 5 = .ok (.aload_n 0, 1) := by decide +kernel
theorem d_Cells_set_6 : decode b_Cells_set 6 = .ok (.getfield 7, 3) := by decide +kernel
theorem d_Cells_set_9 : decode b_Cells_set 9 = .ok (.if_icmp .ge 17, 3) := by decide +kernel
theorem d_Cells_set_12 : decode b_Cells_set 12 = .ok (.aload_n 0, 1) := by decide +kernel
theorem d_Cells_set_13 : decode b_Cells_set 13 = .ok (.getfield 13, 3) := by decide +kernel
theorem d_Cells_set_16 : decode b_Cells_set 16 = .ok (.aload_n 0, 1) := by decide +kernel
theorem d_Cells_set_17 : decode b_Cells_set 17 = .ok (.getfield 7, 3) := by decide +kernel
theorem d_Cells_set_20 : decode b_Cells_set 20 = .ok (.iconst 1, 1) := by decide +kernel
theorem d_Cells_set_21 : decode b_Cells_set 21 = .ok (.isub, 1) := by decide +kernel
theorem d_Cells_set_22 : decode b_Cells_set 22 = .ok (.iload_n 1, 1) := by decide +kernel
theorem d_Cells_set_23 : decode b_Cells_set 23 = .ok (.isub, 1) := by decide +kernel
theorem d_Cells_set_24 : decode b_Cells_set 24 = .ok (.iload_n 2, 1) := by decide +kernel
theorem d_Cells_set_25 : decode b_Cells_set 25 = .ok (.iastore, 1) := by decide +kernel
/-- the picture of ColonMachine$Cells.size -/
def F_Cells_size (n : Int32) : Int32 := n
theorem F_Cells_size_e (n : Int32) : F_Cells_size n = n := rfl
set_option maxHeartbeats 4000000 in
set_option maxRecDepth 100000 in
theorem c_Cells_size (l : Launch) (D : va_G) (cI cJ cZ cW cT : ClassId) (sz : Nat) (h : Nat) (a : Nat) (N : Nat) (n : Int32) (hi : CellsOk N n) : Met l y_Cells_size w_Cells_size ({ frames := 0, cells := 0, slots := 0, locals := 0 }) (va_Pc [.ref h] (zP D classes (TY cI cJ cZ cW cT) [(h, .inr (1, [.ref a, .int n]))] sz)) (va_Qi (fun (r : Int32) (_ : Unit) => r = F_Cells_size n ∧ ((r.toInt = n.toInt))) (fun _ => zB D classes (TY cI cJ cZ cW cT) (va_A [(h, .inr (1, [.ref a, .int n]))] sz) [(h, .inr (1, [.ref a, .int n]))]) (va_A [(h, .inr (1, [.ref a, .int n]))] sz)) 0 0 (va_A [(h, .inr (1, [.ref a, .int n]))] sz) := by
  refine Met.ofW (cc := b_Cells_size) (maxL := 1) (ret := (some .int)) (by decide) rfl ?_
  intro p e s m args below meth c s₁ B hml hv
  obtain ⟨rfl, hsz, hP, hK, hD0, hE⟩ := hv
  have hx := B.exec
  have hb := B.bytes
  have hr := B.returns
  have hts := atoms_spec (ws := w_Cells_size) B.pre
  have hT : ∀ w ∈ TB, w.before _ s = true := fun w h => hts w (List.mem_cons_of_mem _ h)
  have hown : s.vm.findClass "ColonMachine$Cells" = some m.cls := findClass_of_methodNamed B.named
  have hlocks := B.notSynchronized
  subst hsz
  have hD := hD0.self (sz := s.heap.size)
  generalize hAe : va_A [(h, .inr (1, [.ref a, .int n]))] s.heap.size = A at hD hE ⊢
  have hA : ∀ q : Nat, s.heap.size ≤ q → A q := fun q h => by rw [← hAe]; exact Or.inr h
  have hS : va_S A s.heap s.heap [] := va_S.rf
  have hl := lv_entry [.ref h] (n := 1) (Nat.le_of_ble_eq_true rfl)
  rw [lg_entry_eq]
  generalize (lg_sl [.ref h] ++ List.replicate (1 - (lg_sl [.ref h]).length) Slot.unset).toArray = ls at hl ⊢
  have hl : lv_has ls 1 [(0, .ref h)] := hl
  have hF := F_Cells_size_e n
  refine lv_aload_n hx hb d_Cells_size_0 rfl (lv_at hl 0 rfl) ?_
  refine va_get (D := D) (v := .int n) (C := "ColonMachine$Cells") (T := T_Cells) (N := 2) hx hb hT i_Cells hown hK hP 0 rfl rfl 1 (by decide) (hT _ fl_Cells_7) (fun _ h9 => h9) rfl d_Cells_size_1 ?_
  exact W.iret (v := n) hx hb hr (fun t ht hW => ⟨⟨_, (), rfl, ⟨hF.symm, (by have := ti_lo n; have := ti_hi n; (try simp only [true_or, or_true, true_and, and_true, z_tn, CellsOk, CallsOk, TextOk, MemOk, OutOk, Int32.lt_iff_toInt_lt, Int32.le_iff_toInt_le, ← Int32.toInt_inj, Int32.toInt_add, Int32.toInt_sub, Int32.toInt_mul, Int32.toInt_neg, zbm, zbm'] at hi ⊢) <;> omega)⟩, ⟨by rw [ht]; exact hP, va_K.moved hW.alike hK, hD⟩⟩, hS.F ht⟩) hS.2.2 d_Cells_size_4
/-- the picture of ColonMachine$Cells.has -/
def F_Cells_has (n : Int32) (x1 : Int32) : Int32 := if n < x1 then 0 else 1
theorem F_Cells_has_e (n : Int32) (x1 : Int32) : F_Cells_has n x1 = if n < x1 then 0 else 1 := rfl
set_option maxHeartbeats 4000000 in
set_option maxRecDepth 100000 in
theorem c_Cells_has (l : Launch) (D : va_G) (cI cJ cZ cW cT : ClassId) (sz : Nat) (h : Nat) (a : Nat) (N : Nat) (n : Int32) (x1 : Int32) (hi : CellsOk N n) : Met l y_Cells_has w_Cells_has ({ frames := 0, cells := 0, slots := 0, locals := 0 }) (va_Pc [.ref h, .int x1] (zP D classes (TY cI cJ cZ cW cT) [(h, .inr (1, [.ref a, .int n]))] sz)) (va_Qi (fun (r : Int32) (_ : Unit) => r = F_Cells_has n x1 ∧ ((r = 0 ∨ r = 1))) (fun _ => zB D classes (TY cI cJ cZ cW cT) (va_A [(h, .inr (1, [.ref a, .int n]))] sz) [(h, .inr (1, [.ref a, .int n]))]) (va_A [(h, .inr (1, [.ref a, .int n]))] sz)) 0 0 (va_A [(h, .inr (1, [.ref a, .int n]))] sz) := by
  refine Met.ofW (cc := b_Cells_has) (maxL := 2) (ret := (some .boolean)) (by decide) rfl ?_
  intro p e s m args below meth c s₁ B hml hv
  obtain ⟨rfl, hsz, hP, hK, hD0, hE⟩ := hv
  have hx := B.exec
  have hb := B.bytes
  have hr := B.returns
  have hts := atoms_spec (ws := w_Cells_has) B.pre
  have hT : ∀ w ∈ TB, w.before _ s = true := fun w h => hts w (List.mem_cons_of_mem _ h)
  have hown : s.vm.findClass "ColonMachine$Cells" = some m.cls := findClass_of_methodNamed B.named
  have hlocks := B.notSynchronized
  subst hsz
  have hD := hD0.self (sz := s.heap.size)
  generalize hAe : va_A [(h, .inr (1, [.ref a, .int n]))] s.heap.size = A at hD hE ⊢
  have hA : ∀ q : Nat, s.heap.size ≤ q → A q := fun q h => by rw [← hAe]; exact Or.inr h
  have hS : va_S A s.heap s.heap [] := va_S.rf
  have hl := lv_entry [.ref h, .int x1] (n := 2) (Nat.le_of_ble_eq_true rfl)
  rw [lg_entry_eq]
  generalize (lg_sl [.ref h, .int x1] ++ List.replicate (2 - (lg_sl [.ref h, .int x1]).length) Slot.unset).toArray = ls at hl ⊢
  have hl : lv_has ls 2 [(0, .ref h), (1, .int x1)] := hl
  have hF := F_Cells_has_e n x1
  refine lv_aload_n hx hb d_Cells_has_0 rfl (lv_at hl 0 rfl) ?_
  refine va_get (D := D) (v := .int n) (C := "ColonMachine$Cells") (T := T_Cells) (N := 2) hx hb hT i_Cells hown hK hP 0 rfl rfl 1 (by decide) (hT _ fl_Cells_7) (fun _ h9 => h9) rfl d_Cells_has_1 ?_
  refine lv_iload_n hx hb d_Cells_has_4 rfl (lv_at hl 1 rfl) ?_
  refine lv_icmp_lt (tgt := 12) hx hb d_Cells_has_5 (by decide) (fun c1 => ?_) (fun c1 => ?_)
  · have hF := hF.trans (if_pos c1)
    refine lv_iconst (v := 0) hx hb d_Cells_has_12 (by decide) ?_
    exact W.zret (v := 0) hx hb hr rfl (fun t ht hW => ⟨⟨_, (), rfl, ⟨hF.symm, (Or.inl rfl)⟩, ⟨by rw [ht]; exact hP, va_K.moved hW.alike hK, hD⟩⟩, hS.F ht⟩) hS.2.2 d_Cells_has_13
  · have hF := hF.trans (if_neg c1)
    refine lv_iconst (v := 1) hx hb d_Cells_has_8 (by decide) ?_
    refine lv_goto (tgt := 13) hx hb d_Cells_has_9 (by decide) ?_
    exact W.zret (v := 1) hx hb hr rfl (fun t ht hW => ⟨⟨_, (), rfl, ⟨hF.symm, (Or.inr rfl)⟩, ⟨by rw [ht]; exact hP, va_K.moved hW.alike hK, hD⟩⟩, hS.F ht⟩) hS.2.2 d_Cells_has_13
/-- the picture of ColonMachine$Cells.hasRoomFor -/
def F_Cells_hasRoomFor (N : Nat) (n : Int32) (x1 : Int32) : Int32 := if ((nI N) - n) < x1 then 0 else 1
theorem F_Cells_hasRoomFor_e (N : Nat) (n : Int32) (x1 : Int32) : F_Cells_hasRoomFor N n x1 = if ((nI N) - n) < x1 then 0 else 1 := rfl
set_option maxHeartbeats 4000000 in
set_option maxRecDepth 100000 in
theorem c_Cells_hasRoomFor (l : Launch) (D : va_G) (cI cJ cZ cW cT : ClassId) (sz : Nat) (h : Nat) (a : Nat) (N : Nat) (n : Int32) (f : Nat → Int32) (x1 : Int32) (hi : CellsOk N n) : Met l y_Cells_hasRoomFor w_Cells_hasRoomFor ({ frames := 0, cells := 0, slots := 0, locals := 0 }) (va_Pc [.ref h, .int x1] (zP D classes (TY cI cJ cZ cW cT) [(h, .inr (1, [.ref a, .int n])), (a, .inl (cI, N, .inl f))] sz)) (va_Qi (fun (r : Int32) (_ : Unit) => r = F_Cells_hasRoomFor N n x1 ∧ ((r.toInt = 1 ∨ (N : Int) - n.toInt < x1.toInt) ∧ (r = 0 ∨ r = 1))) (fun _ => zB D classes (TY cI cJ cZ cW cT) (va_A [(h, .inr (1, [.ref a, .int n])), (a, .inl (cI, N, .inl f))] sz) [(h, .inr (1, [.ref a, .int n])), (a, .inl (cI, N, .inl f))]) (va_A [(h, .inr (1, [.ref a, .int n])), (a, .inl (cI, N, .inl f))] sz)) 0 0 (va_A [(h, .inr (1, [.ref a, .int n])), (a, .inl (cI, N, .inl f))] sz) := by
  refine Met.ofW (cc := b_Cells_hasRoomFor) (maxL := 2) (ret := (some .boolean)) (by decide) rfl ?_
  intro p e s m args below meth c s₁ B hml hv
  obtain ⟨rfl, hsz, hP, hK, hD0, hE⟩ := hv
  have hx := B.exec
  have hb := B.bytes
  have hr := B.returns
  have hts := atoms_spec (ws := w_Cells_hasRoomFor) B.pre
  have hT : ∀ w ∈ TB, w.before _ s = true := fun w h => hts w (List.mem_cons_of_mem _ h)
  have hown : s.vm.findClass "ColonMachine$Cells" = some m.cls := findClass_of_methodNamed B.named
  have hlocks := B.notSynchronized
  subst hsz
  have hD := hD0.self (sz := s.heap.size)
  generalize hAe : va_A [(h, .inr (1, [.ref a, .int n])), (a, .inl (cI, N, .inl f))] s.heap.size = A at hD hE ⊢
  have hA : ∀ q : Nat, s.heap.size ≤ q → A q := fun q h => by rw [← hAe]; exact Or.inr h
  have hS : va_S A s.heap s.heap [] := va_S.rf
  have hl := lv_entry [.ref h, .int x1] (n := 2) (Nat.le_of_ble_eq_true rfl)
  rw [lg_entry_eq]
  generalize (lg_sl [.ref h, .int x1] ++ List.replicate (2 - (lg_sl [.ref h, .int x1]).length) Slot.unset).toArray = ls at hl ⊢
  have hl : lv_has ls 2 [(0, .ref h), (1, .int x1)] := hl
  have hF := F_Cells_hasRoomFor_e N n x1
  refine lv_iload_n hx hb d_Cells_hasRoomFor_0 rfl (lv_at hl 1 rfl) ?_
  refine lv_aload_n hx hb d_Cells_hasRoomFor_1 rfl (lv_at hl 0 rfl) ?_
  refine va_get (D := D) (v := .ref a) (C := "ColonMachine$Cells") (T := T_Cells) (N := 2) hx hb hT i_Cells hown hK hP 0 rfl rfl 0 (by decide) (hT _ fl_Cells_13) (fun _ h9 => h9) rfl d_Cells_hasRoomFor_2 ?_
  refine va_alen (v := nI N) hx hb hK hP 1 0 rfl rfl rfl d_Cells_hasRoomFor_5 ?_
  refine lv_aload_n hx hb d_Cells_hasRoomFor_6 rfl (lv_at hl 0 rfl) ?_
  refine va_get (D := D) (v := .int n) (C := "ColonMachine$Cells") (T := T_Cells) (N := 2) hx hb hT i_Cells hown hK hP 0 rfl rfl 1 (by decide) (hT _ fl_Cells_7) (fun _ h9 => h9) rfl d_Cells_hasRoomFor_7 ?_
  refine lv_isub hx hb d_Cells_hasRoomFor_10 ?_
  refine lv_icmp_gt (tgt := 18) hx hb d_Cells_hasRoomFor_11 (by decide) (fun c1 => ?_) (fun c1 => ?_)
  · have hF := hF.trans (if_pos c1)
    refine lv_iconst (v := 0) hx hb d_Cells_hasRoomFor_18 (by decide) ?_
    exact W.zret (v := 0) hx hb hr rfl (fun t ht hW => ⟨⟨_, (), rfl, ⟨hF.symm, ⟨(by have := ti_lo n; have := ti_hi n; have := ti_lo x1; have := ti_hi x1; have t0 : Int32.toInt 0 = 0 := rfl; have t1 : Int32.toInt 1 = 1 := rfl; have := co_nI hi; (try simp only [true_or, or_true, true_and, and_true, z_tn, CellsOk, CallsOk, TextOk, MemOk, OutOk, Int32.lt_iff_toInt_lt, Int32.le_iff_toInt_le, ← Int32.toInt_inj, Int32.toInt_add, Int32.toInt_sub, Int32.toInt_mul, Int32.toInt_neg, zbm, zbm', t0, t1] at c1 hi ⊢) <;> omega), (Or.inl rfl)⟩⟩, ⟨by rw [ht]; exact hP, va_K.moved hW.alike hK, hD⟩⟩, hS.F ht⟩) hS.2.2 d_Cells_hasRoomFor_19
  · have hF := hF.trans (if_neg c1)
    refine lv_iconst (v := 1) hx hb d_Cells_hasRoomFor_14 (by decide) ?_
    refine lv_goto (tgt := 19) hx hb d_Cells_hasRoomFor_15 (by decide) ?_
    exact W.zret (v := 1) hx hb hr rfl (fun t ht hW => ⟨⟨_, (), rfl, ⟨hF.symm, ⟨(by have := ti_lo n; have := ti_hi n; have := ti_lo x1; have := ti_hi x1; have t1 : Int32.toInt 1 = 1 := rfl; have := co_nI hi; (try simp only [true_or, or_true, true_and, and_true, z_tn, CellsOk, CallsOk, TextOk, MemOk, OutOk, Int32.lt_iff_toInt_lt, Int32.le_iff_toInt_le, ← Int32.toInt_inj, Int32.toInt_add, Int32.toInt_sub, Int32.toInt_mul, Int32.toInt_neg, zbm, zbm', t1] at c1 hi ⊢) <;> omega), (Or.inr rfl)⟩⟩, ⟨by rw [ht]; exact hP, va_K.moved hW.alike hK, hD⟩⟩, hS.F ht⟩) hS.2.2 d_Cells_hasRoomFor_19
/-- the picture of ColonMachine$Cells.put -/
def F_Cells_put (N : Nat) (n : Int32) (f : Nat → Int32) (x1 : Int32) : Int32 × (Nat → Int32) := if (nI N) ≤ n then (n, f) else (n + 1, upd f n.toNatClampNeg x1)
theorem F_Cells_put_e (N : Nat) (n : Int32) (f : Nat → Int32) (x1 : Int32) : F_Cells_put N n f x1 = if (nI N) ≤ n then (n, f) else (n + 1, upd f n.toNatClampNeg x1) := rfl
set_option maxHeartbeats 4000000 in
set_option maxRecDepth 100000 in
theorem c_Cells_put (l : Launch) (D : va_G) (cI cJ cZ cW cT : ClassId) (sz : Nat) (h : Nat) (a : Nat) (N : Nat) (n : Int32) (f : Nat → Int32) (x1 : Int32) (hi : CellsOk N n) : Met l y_Cells_put w_Cells_put ({ frames := 0, cells := 0, slots := 0, locals := 0 }) (va_Pc [.ref h, .int x1] (zP D classes (TY cI cJ cZ cW cT) [(h, .inr (1, [.ref a, .int n])), (a, .inl (cI, N, .inl f))] sz)) (va_Qv (fun u : Int32 × (Nat → Int32) => u = F_Cells_put N n f x1 ∧ ((CellsOk N u.1))) (fun u => zB D classes (TY cI cJ cZ cW cT) (va_A [(h, .inr (1, [.ref a, .int n])), (a, .inl (cI, N, .inl f))] sz) [(h, .inr (1, [.ref a, .int u.1])), (a, .inl (cI, N, .inl u.2))]) (va_A [(h, .inr (1, [.ref a, .int n])), (a, .inl (cI, N, .inl f))] sz)) 0 0 (va_A [(h, .inr (1, [.ref a, .int n])), (a, .inl (cI, N, .inl f))] sz) := by
  refine Met.ofW (cc := b_Cells_put) (maxL := 2) (ret := none) (by decide) rfl ?_
  intro p e s m args below meth c s₁ B hml hv
  obtain ⟨rfl, hsz, hP, hK, hD0, hE⟩ := hv
  have hx := B.exec
  have hb := B.bytes
  have hr := B.returns
  have hts := atoms_spec (ws := w_Cells_put) B.pre
  have hT : ∀ w ∈ TB, w.before _ s = true := fun w h => hts w (List.mem_cons_of_mem _ h)
  have hown : s.vm.findClass "ColonMachine$Cells" = some m.cls := findClass_of_methodNamed B.named
  have hlocks := B.notSynchronized
  subst hsz
  have hD := hD0.self (sz := s.heap.size)
  generalize hAe : va_A [(h, .inr (1, [.ref a, .int n])), (a, .inl (cI, N, .inl f))] s.heap.size = A at hD hE ⊢
  have hA : ∀ q : Nat, s.heap.size ≤ q → A q := fun q h => by rw [← hAe]; exact Or.inr h
  have hS : va_S A s.heap s.heap [] := va_S.rf
  have hl := lv_entry [.ref h, .int x1] (n := 2) (Nat.le_of_ble_eq_true rfl)
  rw [lg_entry_eq]
  generalize (lg_sl [.ref h, .int x1] ++ List.replicate (2 - (lg_sl [.ref h, .int x1]).length) Slot.unset).toArray = ls at hl ⊢
  have hl : lv_has ls 2 [(0, .ref h), (1, .int x1)] := hl
  have hF := F_Cells_put_e N n f x1
  refine lv_aload_n hx hb d_Cells_put_0 rfl (lv_at hl 0 rfl) ?_
  refine va_get (D := D) (v := .int n) (C := "ColonMachine$Cells") (T := T_Cells) (N := 2) hx hb hT i_Cells hown hK hP 0 rfl rfl 1 (by decide) (hT _ fl_Cells_7) (fun _ h9 => h9) rfl d_Cells_put_1 ?_
  refine lv_aload_n hx hb d_Cells_put_4 rfl (lv_at hl 0 rfl) ?_
  refine va_get (D := D) (v := .ref a) (C := "ColonMachine$Cells") (T := T_Cells) (N := 2) hx hb hT i_Cells hown hK hP 0 rfl rfl 0 (by decide) (hT _ fl_Cells_13) (fun _ h9 => h9) rfl d_Cells_put_5 ?_
  refine va_alen (v := nI N) hx hb hK hP 1 0 rfl rfl rfl d_Cells_put_8 ?_
  refine lv_icmp_ge (tgt := 32) hx hb d_Cells_put_9 (by decide) (fun c1 => ?_) (fun c1 => ?_)
  · have hF := hF.trans (if_pos c1)
    exact W.vret hx hb hr (fun t ht hW => ⟨⟨_, rfl, ⟨hF.symm, hi⟩, ⟨by rw [ht]; exact hP, va_K.moved hW.alike hK, hD⟩⟩, hS.F ht⟩) hS.2.2 d_Cells_put_32
  · have hF := hF.trans (if_neg c1)
    refine lv_aload_n hx hb d_Cells_put_12 rfl (lv_at hl 0 rfl) ?_
    refine va_get (D := D) (v := .ref a) (C := "ColonMachine$Cells") (T := T_Cells) (N := 2) hx hb hT i_Cells hown hK hP 0 rfl rfl 0 (by decide) (hT _ fl_Cells_13) (fun _ h9 => h9) rfl d_Cells_put_13 ?_
    refine lv_aload_n hx hb d_Cells_put_16 rfl (lv_at hl 0 rfl) ?_
    refine va_get (D := D) (v := .int n) (C := "ColonMachine$Cells") (T := T_Cells) (N := 2) hx hb hT i_Cells hown hK hP 0 rfl rfl 1 (by decide) (hT _ fl_Cells_7) (fun _ h9 => h9) rfl d_Cells_put_17 ?_
    refine lv_iload_n hx hb d_Cells_put_20 rfl (lv_at hl 1 rfl) ?_
    refine va_iast hx hb hK hP hD hS 1 0 rfl rfl (by have := ti_lo n; have := ti_hi n; have := co_nI hi; rw [vp_in_iff]; (try simp only [true_or, or_true, true_and, and_true, z_tn, CellsOk, CallsOk, TextOk, MemOk, OutOk, Int32.lt_iff_toInt_lt, Int32.le_iff_toInt_le, ← Int32.toInt_inj, Int32.toInt_add, Int32.toInt_sub, Int32.toInt_mul, Int32.toInt_neg, zbm, zbm'] at c1 hi ⊢) <;> omega) d_Cells_put_21 (fun H locs hP hD hS => ?_)
    have hP : va_P D classes [(h, .inr (1, [.ref a, .int n])), (a, .inl (cI, N, .inl (upd f n.toNatClampNeg x1)))] H := hP
    have hD : va_D A [(h, .inr (1, [.ref a, .int n])), (a, .inl (cI, N, .inl (upd f n.toNatClampNeg x1)))] := hD
    refine lv_aload_n hx hb d_Cells_put_22 rfl (lv_at hl 0 rfl) ?_
    refine lv_dup hx hb d_Cells_put_23 rfl ?_
    refine va_get (D := D) (v := .int n) (C := "ColonMachine$Cells") (T := T_Cells) (N := 2) hx hb hT i_Cells hown hK hP 0 rfl rfl 1 (by decide) (hT _ fl_Cells_7) (fun _ h9 => h9) rfl d_Cells_put_24 ?_
    refine lv_iconst (v := 1) hx hb d_Cells_put_27 (by decide) ?_
    refine lv_iadd hx hb d_Cells_put_28 ?_
    refine va_put (D := D) (v := .int (n + 1)) (ty := .int) (C := "ColonMachine$Cells") (T := T_Cells) (N := 2) hx hb hT i_Cells t_Cells tk_Cells n_Cells hown hK hP hD hS 0 rfl rfl 1 (by decide) (hT _ fl_Cells_7) (fun _ h9 => h9) rfl (by decide +kernel) rfl rfl (Nat.le_of_ble_eq_true rfl) d_Cells_put_29 (fun H locs hP hD hS => ?_)
    have hP : va_P D classes [(h, .inr (1, [.ref a, .int (n + 1)])), (a, .inl (cI, N, .inl (upd f n.toNatClampNeg x1)))] H := hP
    have hD : va_D A [(h, .inr (1, [.ref a, .int (n + 1)])), (a, .inl (cI, N, .inl (upd f n.toNatClampNeg x1)))] := hD
    exact W.vret hx hb hr (fun t ht hW => ⟨⟨_, rfl, ⟨hF.symm, (by have := ti_lo n; have := ti_hi n; have t1 : Int32.toInt 1 = 1 := rfl; have := co_nI hi; (try simp only [true_or, or_true, true_and, and_true, z_tn, CellsOk, CallsOk, TextOk, MemOk, OutOk, Int32.lt_iff_toInt_lt, Int32.le_iff_toInt_le, ← Int32.toInt_inj, Int32.toInt_add, Int32.toInt_sub, Int32.toInt_mul, Int32.toInt_neg, zbm, zbm', t1] at c1 hi ⊢) <;> omega)⟩, ⟨by rw [ht]; exact hP, va_K.moved hW.alike hK, hD⟩⟩, hS.F ht⟩) hS.2.2 d_Cells_put_32
/-- the picture of ColonMachine$Cells.take -/
def F_Cells_take (n : Int32) (f : Nat → Int32) : Int32 × Int32 := if 1 ≤ n then (f (n - 1).toNatClampNeg, n - 1) else (0, n)
theorem F_Cells_take_e (n : Int32) (f : Nat → Int32) : F_Cells_take n f = if 1 ≤ n then (f (n - 1).toNatClampNeg, n - 1) else (0, n) := rfl
set_option maxHeartbeats 4000000 in
set_option maxRecDepth 100000 in
theorem c_Cells_take (l : Launch) (D : va_G) (cI cJ cZ cW cT : ClassId) (sz : Nat) (h : Nat) (a : Nat) (N : Nat) (n : Int32) (f : Nat → Int32) (hi : CellsOk N n) : Met l y_Cells_take w_Cells_take ({ frames := 0, cells := 0, slots := 0, locals := 0 }) (va_Pc [.ref h] (zP D classes (TY cI cJ cZ cW cT) [(h, .inr (1, [.ref a, .int n])), (a, .inl (cI, N, .inl f))] sz)) (va_Qi (fun (r : Int32) (u : Int32) => (r, u) = F_Cells_take n f ∧ ((CellsOk N u))) (fun u => zB D classes (TY cI cJ cZ cW cT) (va_A [(h, .inr (1, [.ref a, .int n])), (a, .inl (cI, N, .inl f))] sz) [(h, .inr (1, [.ref a, .int u])), (a, .inl (cI, N, .inl f))]) (va_A [(h, .inr (1, [.ref a, .int n])), (a, .inl (cI, N, .inl f))] sz)) 0 0 (va_A [(h, .inr (1, [.ref a, .int n])), (a, .inl (cI, N, .inl f))] sz) := by
  refine Met.ofW (cc := b_Cells_take) (maxL := 1) (ret := (some .int)) (by decide) rfl ?_
  intro p e s m args below meth c s₁ B hml hv
  obtain ⟨rfl, hsz, hP, hK, hD0, hE⟩ := hv
  have hx := B.exec
  have hb := B.bytes
  have hr := B.returns
  have hts := atoms_spec (ws := w_Cells_take) B.pre
  have hT : ∀ w ∈ TB, w.before _ s = true := fun w h => hts w (List.mem_cons_of_mem _ h)
  have hown : s.vm.findClass "ColonMachine$Cells" = some m.cls := findClass_of_methodNamed B.named
  have hlocks := B.notSynchronized
  subst hsz
  have hD := hD0.self (sz := s.heap.size)
  generalize hAe : va_A [(h, .inr (1, [.ref a, .int n])), (a, .inl (cI, N, .inl f))] s.heap.size = A at hD hE ⊢
  have hA : ∀ q : Nat, s.heap.size ≤ q → A q := fun q h => by rw [← hAe]; exact Or.inr h
  have hS : va_S A s.heap s.heap [] := va_S.rf
  have hl := lv_entry [.ref h] (n := 1) (Nat.le_of_ble_eq_true rfl)
  rw [lg_entry_eq]
  generalize (lg_sl [.ref h] ++ List.replicate (1 - (lg_sl [.ref h]).length) Slot.unset).toArray = ls at hl ⊢
  have hl : lv_has ls 1 [(0, .ref h)] := hl
  have hF := F_Cells_take_e n f
  refine lv_aload_n hx hb d_Cells_take_0 rfl (lv_at hl 0 rfl) ?_
  refine va_get (D := D) (v := .int n) (C := "ColonMachine$Cells") (T := T_Cells) (N := 2) hx hb hT i_Cells hown hK hP 0 rfl rfl 1 (by decide) (hT _ fl_Cells_7) (fun _ h9 => h9) rfl d_Cells_take_1 ?_
  refine lv_iconst (v := 1) hx hb d_Cells_take_4 (by decide) ?_
  refine lv_icmp_ge (tgt := 10) hx hb d_Cells_take_5 (by decide) (fun c1 => ?_) (fun c1 => ?_)
  · have hF := hF.trans (if_pos c1)
    refine lv_aload_n hx hb d_Cells_take_10 rfl (lv_at hl 0 rfl) ?_
    refine lv_dup hx hb d_Cells_take_11 rfl ?_
    refine va_get (D := D) (v := .int n) (C := "ColonMachine$Cells") (T := T_Cells) (N := 2) hx hb hT i_Cells hown hK hP 0 rfl rfl 1 (by decide) (hT _ fl_Cells_7) (fun _ h9 => h9) rfl d_Cells_take_12 ?_
    refine lv_iconst (v := 1) hx hb d_Cells_take_15 (by decide) ?_
    refine lv_isub hx hb d_Cells_take_16 ?_
    refine va_put (D := D) (v := .int (n - 1)) (ty := .int) (C := "ColonMachine$Cells") (T := T_Cells) (N := 2) hx hb hT i_Cells t_Cells tk_Cells n_Cells hown hK hP hD hS 0 rfl rfl 1 (by decide) (hT _ fl_Cells_7) (fun _ h9 => h9) rfl (by decide +kernel) rfl rfl (Nat.le_of_ble_eq_true rfl) d_Cells_take_17 (fun H locs hP hD hS => ?_)
    have hP : va_P D classes [(h, .inr (1, [.ref a, .int (n - 1)])), (a, .inl (cI, N, .inl f))] H := hP
    have hD : va_D A [(h, .inr (1, [.ref a, .int (n - 1)])), (a, .inl (cI, N, .inl f))] := hD
    refine lv_aload_n hx hb d_Cells_take_20 rfl (lv_at hl 0 rfl) ?_
    refine va_get (D := D) (v := .ref a) (C := "ColonMachine$Cells") (T := T_Cells) (N := 2) hx hb hT i_Cells hown hK hP 0 rfl rfl 0 (by decide) (hT _ fl_Cells_13) (fun _ h9 => h9) rfl d_Cells_take_21 ?_
    refine lv_aload_n hx hb d_Cells_take_24 rfl (lv_at hl 0 rfl) ?_
    refine va_get (D := D) (v := .int (n - 1)) (C := "ColonMachine$Cells") (T := T_Cells) (N := 2) hx hb hT i_Cells hown hK hP 0 rfl rfl 1 (by decide) (hT _ fl_Cells_7) (fun _ h9 => h9) rfl d_Cells_take_25 ?_
    refine va_iald hx hb hK hP 1 0 rfl rfl (by have := ti_lo n; have := ti_hi n; have t1 : Int32.toInt 1 = 1 := rfl; rw [vp_in_iff]; (try simp only [true_or, or_true, true_and, and_true, z_tn, CellsOk, CallsOk, TextOk, MemOk, OutOk, Int32.lt_iff_toInt_lt, Int32.le_iff_toInt_le, ← Int32.toInt_inj, Int32.toInt_add, Int32.toInt_sub, Int32.toInt_mul, Int32.toInt_neg, zbm, zbm', t1] at c1 hi ⊢) <;> omega) d_Cells_take_28 ?_
    exact W.iret (v := f (n - 1).toNatClampNeg) hx hb hr (fun t ht hW => ⟨⟨_, _, rfl, ⟨hF.symm, (by have := ti_lo n; have := ti_hi n; have t1 : Int32.toInt 1 = 1 := rfl; (try simp only [true_or, or_true, true_and, and_true, z_tn, CellsOk, CallsOk, TextOk, MemOk, OutOk, Int32.lt_iff_toInt_lt, Int32.le_iff_toInt_le, ← Int32.toInt_inj, Int32.toInt_add, Int32.toInt_sub, Int32.toInt_mul, Int32.toInt_neg, zbm, zbm', t1] at c1 hi ⊢) <;> omega)⟩, ⟨by rw [ht]; exact hP, va_K.moved hW.alike hK, hD⟩⟩, hS.F ht⟩) hS.2.2 d_Cells_take_29
  · have hF := hF.trans (if_neg c1)
    refine lv_iconst (v := 0) hx hb d_Cells_take_8 (by decide) ?_
    exact W.iret (v := 0) hx hb hr (fun t ht hW => ⟨⟨_, _, rfl, ⟨hF.symm, hi⟩, ⟨by rw [ht]; exact hP, va_K.moved hW.alike hK, hD⟩⟩, hS.F ht⟩) hS.2.2 d_Cells_take_9
/-- the picture of ColonMachine$Cells.drop -/
def F_Cells_drop (n : Int32) (x1 : Int32) : Int32 := if n ≤ x1 then 0 else (n - x1)
theorem F_Cells_drop_e (n : Int32) (x1 : Int32) : F_Cells_drop n x1 = if n ≤ x1 then 0 else (n - x1) := rfl
set_option maxHeartbeats 4000000 in
set_option maxRecDepth 100000 in
theorem c_Cells_drop (l : Launch) (D : va_G) (cI cJ cZ cW cT : ClassId) (sz : Nat) (h : Nat) (a : Nat) (N : Nat) (n : Int32) (x1 : Int32) (hi : CellsOk N n) (hp : 0 ≤ x1.toInt) : Met l y_Cells_drop w_Cells_drop ({ frames := 0, cells := 0, slots := 0, locals := 0 }) (va_Pc [.ref h, .int x1] (zP D classes (TY cI cJ cZ cW cT) [(h, .inr (1, [.ref a, .int n]))] sz)) (va_Qv (fun u : Int32 => u = F_Cells_drop n x1 ∧ ((CellsOk N u))) (fun u => zB D classes (TY cI cJ cZ cW cT) (va_A [(h, .inr (1, [.ref a, .int n]))] sz) [(h, .inr (1, [.ref a, .int u]))]) (va_A [(h, .inr (1, [.ref a, .int n]))] sz)) 0 0 (va_A [(h, .inr (1, [.ref a, .int n]))] sz) := by
  refine Met.ofW (cc := b_Cells_drop) (maxL := 2) (ret := none) (by decide) rfl ?_
  intro p e s m args below meth c s₁ B hml hv
  obtain ⟨rfl, hsz, hP, hK, hD0, hE⟩ := hv
  have hx := B.exec
  have hb := B.bytes
  have hr := B.returns
  have hts := atoms_spec (ws := w_Cells_drop) B.pre
  have hT : ∀ w ∈ TB, w.before _ s = true := fun w h => hts w (List.mem_cons_of_mem _ h)
  have hown : s.vm.findClass "ColonMachine$Cells" = some m.cls := findClass_of_methodNamed B.named
  have hlocks := B.notSynchronized
  subst hsz
  have hD := hD0.self (sz := s.heap.size)
  generalize hAe : va_A [(h, .inr (1, [.ref a, .int n]))] s.heap.size = A at hD hE ⊢
  have hA : ∀ q : Nat, s.heap.size ≤ q → A q := fun q h => by rw [← hAe]; exact Or.inr h
  have hS : va_S A s.heap s.heap [] := va_S.rf
  have hl := lv_entry [.ref h, .int x1] (n := 2) (Nat.le_of_ble_eq_true rfl)
  rw [lg_entry_eq]
  generalize (lg_sl [.ref h, .int x1] ++ List.replicate (2 - (lg_sl [.ref h, .int x1]).length) Slot.unset).toArray = ls at hl ⊢
  have hl : lv_has ls 2 [(0, .ref h), (1, .int x1)] := hl
  have hF := F_Cells_drop_e n x1
  refine lv_aload_n hx hb d_Cells_drop_0 rfl (lv_at hl 0 rfl) ?_
  refine lv_iload_n hx hb d_Cells_drop_1 rfl (lv_at hl 1 rfl) ?_
  refine lv_aload_n hx hb d_Cells_drop_2 rfl (lv_at hl 0 rfl) ?_
  refine va_get (D := D) (v := .int n) (C := "ColonMachine$Cells") (T := T_Cells) (N := 2) hx hb hT i_Cells hown hK hP 0 rfl rfl 1 (by decide) (hT _ fl_Cells_7) (fun _ h9 => h9) rfl d_Cells_drop_3 ?_
  refine lv_icmp_ge (tgt := 18) hx hb d_Cells_drop_6 (by decide) (fun c1 => ?_) (fun c1 => ?_)
  · have hF := hF.trans (if_pos c1)
    refine lv_iconst (v := 0) hx hb d_Cells_drop_18 (by decide) ?_
    refine va_put (D := D) (v := .int 0) (ty := .int) (C := "ColonMachine$Cells") (T := T_Cells) (N := 2) hx hb hT i_Cells t_Cells tk_Cells n_Cells hown hK hP hD hS 0 rfl rfl 1 (by decide) (hT _ fl_Cells_7) (fun _ h9 => h9) rfl (by decide +kernel) rfl rfl (Nat.le_of_ble_eq_true rfl) d_Cells_drop_19 (fun H locs hP hD hS => ?_)
    have hP : va_P D classes [(h, .inr (1, [.ref a, .int 0]))] H := hP
    have hD : va_D A [(h, .inr (1, [.ref a, .int 0]))] := hD
    exact W.vret hx hb hr (fun t ht hW => ⟨⟨_, rfl, ⟨hF.symm, (by have := ti_lo n; have := ti_hi n; have := ti_lo x1; have := ti_hi x1; have t0 : Int32.toInt 0 = 0 := rfl; (try simp only [true_or, or_true, true_and, and_true, z_tn, CellsOk, CallsOk, TextOk, MemOk, OutOk, Int32.lt_iff_toInt_lt, Int32.le_iff_toInt_le, ← Int32.toInt_inj, Int32.toInt_add, Int32.toInt_sub, Int32.toInt_mul, Int32.toInt_neg, zbm, zbm', t0] at c1 hi hp ⊢) <;> omega)⟩, ⟨by rw [ht]; exact hP, va_K.moved hW.alike hK, hD⟩⟩, hS.F ht⟩) hS.2.2 d_Cells_drop_22
  · have hF := hF.trans (if_neg c1)
    refine lv_aload_n hx hb d_Cells_drop_9 rfl (lv_at hl 0 rfl) ?_
    refine va_get (D := D) (v := .int n) (C := "ColonMachine$Cells") (T := T_Cells) (N := 2) hx hb hT i_Cells hown hK hP 0 rfl rfl 1 (by decide) (hT _ fl_Cells_7) (fun _ h9 => h9) rfl d_Cells_drop_10 ?_
    refine lv_iload_n hx hb d_Cells_drop_13 rfl (lv_at hl 1 rfl) ?_
    refine lv_isub hx hb d_Cells_drop_14 ?_
    refine lv_goto (tgt := 19) hx hb d_Cells_drop_15 (by decide) ?_
    refine va_put (D := D) (v := .int (n - x1)) (ty := .int) (C := "ColonMachine$Cells") (T := T_Cells) (N := 2) hx hb hT i_Cells t_Cells tk_Cells n_Cells hown hK hP hD hS 0 rfl rfl 1 (by decide) (hT _ fl_Cells_7) (fun _ h9 => h9) rfl (by decide +kernel) rfl rfl (Nat.le_of_ble_eq_true rfl) d_Cells_drop_19 (fun H locs hP hD hS => ?_)
    have hP : va_P D classes [(h, .inr (1, [.ref a, .int (n - x1)]))] H := hP
    have hD : va_D A [(h, .inr (1, [.ref a, .int (n - x1)]))] := hD
    exact W.vret hx hb hr (fun t ht hW => ⟨⟨_, rfl, ⟨hF.symm, (by have := ti_lo n; have := ti_hi n; have := ti_lo x1; have := ti_hi x1; have t0 : Int32.toInt 0 = 0 := rfl; (try simp only [true_or, or_true, true_and, and_true, z_tn, CellsOk, CallsOk, TextOk, MemOk, OutOk, Int32.lt_iff_toInt_lt, Int32.le_iff_toInt_le, ← Int32.toInt_inj, Int32.toInt_add, Int32.toInt_sub, Int32.toInt_mul, Int32.toInt_neg, zbm, zbm', t0] at c1 hi hp ⊢) <;> omega)⟩, ⟨by rw [ht]; exact hP, va_K.moved hW.alike hK, hD⟩⟩, hS.F ht⟩) hS.2.2 d_Cells_drop_22
/-- the picture of ColonMachine$Cells.at -/
def F_Cells_at (n : Int32) (f : Nat → Int32) (x1 : Int32) : Int32 := if x1 < 0 then 0 else (if n ≤ x1 then 0 else (f ((n - 1) - x1).toNatClampNeg))
theorem F_Cells_at_e (n : Int32) (f : Nat → Int32) (x1 : Int32) : F_Cells_at n f x1 = if x1 < 0 then 0 else (if n ≤ x1 then 0 else (f ((n - 1) - x1).toNatClampNeg)) := rfl
set_option maxHeartbeats 4000000 in
set_option maxRecDepth 100000 in
theorem c_Cells_at (l : Launch) (D : va_G) (cI cJ cZ cW cT : ClassId) (sz : Nat) (h : Nat) (a : Nat) (N : Nat) (n : Int32) (f : Nat → Int32) (x1 : Int32) (hi : CellsOk N n) : Met l y_Cells_at w_Cells_at ({ frames := 0, cells := 0, slots := 0, locals := 0 }) (va_Pc [.ref h, .int x1] (zP D classes (TY cI cJ cZ cW cT) [(h, .inr (1, [.ref a, .int n])), (a, .inl (cI, N, .inl f))] sz)) (va_Qi (fun (r : Int32) (_ : Unit) => r = F_Cells_at n f x1 ∧ (True)) (fun _ => zB D classes (TY cI cJ cZ cW cT) (va_A [(h, .inr (1, [.ref a, .int n])), (a, .inl (cI, N, .inl f))] sz) [(h, .inr (1, [.ref a, .int n])), (a, .inl (cI, N, .inl f))]) (va_A [(h, .inr (1, [.ref a, .int n])), (a, .inl (cI, N, .inl f))] sz)) 0 0 (va_A [(h, .inr (1, [.ref a, .int n])), (a, .inl (cI, N, .inl f))] sz) := by
  refine Met.ofW (cc := b_Cells_at) (maxL := 2) (ret := (some .int)) (by decide) rfl ?_
  intro p e s m args below meth c s₁ B hml hv
  obtain ⟨rfl, hsz, hP, hK, hD0, hE⟩ := hv
  have hx := B.exec
  have hb := B.bytes
  have hr := B.returns
  have hts := atoms_spec (ws := w_Cells_at) B.pre
  have hT : ∀ w ∈ TB, w.before _ s = true := fun w h => hts w (List.mem_cons_of_mem _ h)
  have hown : s.vm.findClass "ColonMachine$Cells" = some m.cls := findClass_of_methodNamed B.named
  have hlocks := B.notSynchronized
  subst hsz
  have hD := hD0.self (sz := s.heap.size)
  generalize hAe : va_A [(h, .inr (1, [.ref a, .int n])), (a, .inl (cI, N, .inl f))] s.heap.size = A at hD hE ⊢
  have hA : ∀ q : Nat, s.heap.size ≤ q → A q := fun q h => by rw [← hAe]; exact Or.inr h
  have hS : va_S A s.heap s.heap [] := va_S.rf
  have hl := lv_entry [.ref h, .int x1] (n := 2) (Nat.le_of_ble_eq_true rfl)
  rw [lg_entry_eq]
  generalize (lg_sl [.ref h, .int x1] ++ List.replicate (2 - (lg_sl [.ref h, .int x1]).length) Slot.unset).toArray = ls at hl ⊢
  have hl : lv_has ls 2 [(0, .ref h), (1, .int x1)] := hl
  have hF := F_Cells_at_e n f x1
  refine lv_iload_n hx hb d_Cells_at_0 rfl (lv_at hl 1 rfl) ?_
  refine lv_if_lt (tgt := 28) hx hb d_Cells_at_1 (by decide) (fun c1 => ?_) (fun c1 => ?_)
  · have hF := hF.trans (if_pos c1)
    refine lv_iconst (v := 0) hx hb d_Cells_at_28 (by decide) ?_
    exact W.iret (v := 0) hx hb hr (fun t ht hW => ⟨⟨_, (), rfl, ⟨hF.symm, trivial⟩, ⟨by rw [ht]; exact hP, va_K.moved hW.alike hK, hD⟩⟩, hS.F ht⟩) hS.2.2 d_Cells_at_29
  · have hF := hF.trans (if_neg c1)
    refine lv_iload_n hx hb d_Cells_at_4 rfl (lv_at hl 1 rfl) ?_
    refine lv_aload_n hx hb d_Cells_at_5 rfl (lv_at hl 0 rfl) ?_
    refine va_get (D := D) (v := .int n) (C := "ColonMachine$Cells") (T := T_Cells) (N := 2) hx hb hT i_Cells hown hK hP 0 rfl rfl 1 (by decide) (hT _ fl_Cells_7) (fun _ h9 => h9) rfl d_Cells_at_6 ?_
    refine lv_icmp_ge (tgt := 28) hx hb d_Cells_at_9 (by decide) (fun c2 => ?_) (fun c2 => ?_)
    · have hF := hF.trans (if_pos c2)
      refine lv_iconst (v := 0) hx hb d_Cells_at_28 (by decide) ?_
      exact W.iret (v := 0) hx hb hr (fun t ht hW => ⟨⟨_, (), rfl, ⟨hF.symm, trivial⟩, ⟨by rw [ht]; exact hP, va_K.moved hW.alike hK, hD⟩⟩, hS.F ht⟩) hS.2.2 d_Cells_at_29
    · have hF := hF.trans (if_neg c2)
      refine lv_aload_n hx hb d_Cells_at_12 rfl (lv_at hl 0 rfl) ?_
      refine va_get (D := D) (v := .ref a) (C := "ColonMachine$Cells") (T := T_Cells) (N := 2) hx hb hT i_Cells hown hK hP 0 rfl rfl 0 (by decide) (hT _ fl_Cells_13) (fun _ h9 => h9) rfl d_Cells_at_13 ?_
      refine lv_aload_n hx hb d_Cells_at_16 rfl (lv_at hl 0 rfl) ?_
      refine va_get (D := D) (v := .int n) (C := "ColonMachine$Cells") (T := T_Cells) (N := 2) hx hb hT i_Cells hown hK hP 0 rfl rfl 1 (by decide) (hT _ fl_Cells_7) (fun _ h9 => h9) rfl d_Cells_at_17 ?_
      refine lv_iconst (v := 1) hx hb d_Cells_at_20 (by decide) ?_
      refine lv_isub hx hb d_Cells_at_21 ?_
      refine lv_iload_n hx hb d_Cells_at_22 rfl (lv_at hl 1 rfl) ?_
      refine lv_isub hx hb d_Cells_at_23 ?_
      refine va_iald hx hb hK hP 1 0 rfl rfl (by have := ti_lo n; have := ti_hi n; have := ti_lo x1; have := ti_hi x1; have t1 : Int32.toInt 1 = 1 := rfl; have t0 : Int32.toInt 0 = 0 := rfl; rw [vp_in_iff]; (try simp only [true_or, or_true, true_and, and_true, z_tn, CellsOk, CallsOk, TextOk, MemOk, OutOk, Int32.lt_iff_toInt_lt, Int32.le_iff_toInt_le, ← Int32.toInt_inj, Int32.toInt_add, Int32.toInt_sub, Int32.toInt_mul, Int32.toInt_neg, zbm, zbm', t1, t0] at c1 c2 hi ⊢) <;> omega) d_Cells_at_24 ?_
      refine lv_goto (tgt := 29) hx hb d_Cells_at_25 (by decide) ?_
      exact W.iret (v := f ((n - 1) - x1).toNatClampNeg) hx hb hr (fun t ht hW => ⟨⟨_, (), rfl, ⟨hF.symm, trivial⟩, ⟨by rw [ht]; exact hP, va_K.moved hW.alike hK, hD⟩⟩, hS.F ht⟩) hS.2.2 d_Cells_at_29
/-- the picture of ColonMachine$Cells.set -/
def F_Cells_set (n : Int32) (f : Nat → Int32) (x1 : Int32) (x2 : Int32) : (Nat → Int32) := if x1 < 0 then f else (if n ≤ x1 then f else (upd f ((n - 1) - x1).toNatClampNeg x2))
theorem F_Cells_set_e (n : Int32) (f : Nat → Int32) (x1 : Int32) (x2 : Int32) : F_Cells_set n f x1 x2 = if x1 < 0 then f else (if n ≤ x1 then f else (upd f ((n - 1) - x1).toNatClampNeg x2)) := rfl
set_option maxHeartbeats 4000000 in
set_option maxRecDepth 100000 in
theorem c_Cells_set (l : Launch) (D : va_G) (cI cJ cZ cW cT : ClassId) (sz : Nat) (h : Nat) (a : Nat) (N : Nat) (n : Int32) (f : Nat → Int32) (x1 : Int32) (x2 : Int32) (hi : CellsOk N n) : Met l y_Cells_set w_Cells_set ({ frames := 0, cells := 0, slots := 0, locals := 0 }) (va_Pc [.ref h, .int x1, .int x2] (zP D classes (TY cI cJ cZ cW cT) [(h, .inr (1, [.ref a, .int n])), (a, .inl (cI, N, .inl f))] sz)) (va_Qv (fun u : (Nat → Int32) => u = F_Cells_set n f x1 x2 ∧ (True)) (fun u => zB D classes (TY cI cJ cZ cW cT) (va_A [(h, .inr (1, [.ref a, .int n])), (a, .inl (cI, N, .inl f))] sz) [(h, .inr (1, [.ref a, .int n])), (a, .inl (cI, N, .inl u))]) (va_A [(h, .inr (1, [.ref a, .int n])), (a, .inl (cI, N, .inl f))] sz)) 0 0 (va_A [(h, .inr (1, [.ref a, .int n])), (a, .inl (cI, N, .inl f))] sz) := by
  refine Met.ofW (cc := b_Cells_set) (maxL := 3) (ret := none) (by decide) rfl ?_
  intro p e s m args below meth c s₁ B hml hv
  obtain ⟨rfl, hsz, hP, hK, hD0, hE⟩ := hv
  have hx := B.exec
  have hb := B.bytes
  have hr := B.returns
  have hts := atoms_spec (ws := w_Cells_set) B.pre
  have hT : ∀ w ∈ TB, w.before _ s = true := fun w h => hts w (List.mem_cons_of_mem _ h)
  have hown : s.vm.findClass "ColonMachine$Cells" = some m.cls := findClass_of_methodNamed B.named
  have hlocks := B.notSynchronized
  subst hsz
  have hD := hD0.self (sz := s.heap.size)
  generalize hAe : va_A [(h, .inr (1, [.ref a, .int n])), (a, .inl (cI, N, .inl f))] s.heap.size = A at hD hE ⊢
  have hA : ∀ q : Nat, s.heap.size ≤ q → A q := fun q h => by rw [← hAe]; exact Or.inr h
  have hS : va_S A s.heap s.heap [] := va_S.rf
  have hl := lv_entry [.ref h, .int x1, .int x2] (n := 3) (Nat.le_of_ble_eq_true rfl)
  rw [lg_entry_eq]
  generalize (lg_sl [.ref h, .int x1, .int x2] ++ List.replicate (3 - (lg_sl [.ref h, .int x1, .int x2]).length) Slot.unset).toArray = ls at hl ⊢
  have hl : lv_has ls 3 [(0, .ref h), (1, .int x1), (2, .int x2)] := hl
  have hF := F_Cells_set_e n f x1 x2
  refine lv_iload_n hx hb d_Cells_set_0 rfl (lv_at hl 1 rfl) ?_
  refine lv_if_lt (tgt := 26) hx hb d_Cells_set_1 (by decide) (fun c1 => ?_) (fun c1 => ?_)
  · have hF := hF.trans (if_pos c1)
    exact W.vret hx hb hr (fun t ht hW => ⟨⟨_, rfl, ⟨hF.symm, trivial⟩, ⟨by rw [ht]; exact hP, va_K.moved hW.alike hK, hD⟩⟩, hS.F ht⟩) hS.2.2 d_Cells_set_26
  · have hF := hF.trans (if_neg c1)
    refine lv_iload_n hx hb d_Cells_set_4 rfl (lv_at hl 1 rfl) ?_
    refine lv_aload_n hx hb d_Cells_set_5 rfl (lv_at hl 0 rfl) ?_
    refine va_get (D := D) (v := .int n) (C := "ColonMachine$Cells") (T := T_Cells) (N := 2) hx hb hT i_Cells hown hK hP 0 rfl rfl 1 (by decide) (hT _ fl_Cells_7) (fun _ h9 => h9) rfl d_Cells_set_6 ?_
    refine lv_icmp_ge (tgt := 26) hx hb d_Cells_set_9 (by decide) (fun c2 => ?_) (fun c2 => ?_)
    · have hF := hF.trans (if_pos c2)
      exact W.vret hx hb hr (fun t ht hW => ⟨⟨_, rfl, ⟨hF.symm, trivial⟩, ⟨by rw [ht]; exact hP, va_K.moved hW.alike hK, hD⟩⟩, hS.F ht⟩) hS.2.2 d_Cells_set_26
    · have hF := hF.trans (if_neg c2)
      refine lv_aload_n hx hb d_Cells_set_12 rfl (lv_at hl 0 rfl) ?_
      refine va_get (D := D) (v := .ref a) (C := "ColonMachine$Cells") (T := T_Cells) (N := 2) hx hb hT i_Cells hown hK hP 0 rfl rfl 0 (by decide) (hT _ fl_Cells_13) (fun _ h9 => h9) rfl d_Cells_set_13 ?_
      refine lv_aload_n hx hb d_Cells_set_16 rfl (lv_at hl 0 rfl) ?_
      refine va_get (D := D) (v := .int n) (C := "ColonMachine$Cells") (T := T_Cells) (N := 2) hx hb hT i_Cells hown hK hP 0 rfl rfl 1 (by decide) (hT _ fl_Cells_7) (fun _ h9 => h9) rfl d_Cells_set_17 ?_
      refine lv_iconst (v := 1) hx hb d_Cells_set_20 (by decide) ?_
      refine lv_isub hx hb d_Cells_set_21 ?_
      refine lv_iload_n hx hb d_Cells_set_22 rfl (lv_at hl 1 rfl) ?_
      refine lv_isub hx hb d_Cells_set_23 ?_
      refine lv_iload_n hx hb d_Cells_set_24 rfl (lv_at hl 2 rfl) ?_
      refine va_iast hx hb hK hP hD hS 1 0 rfl rfl (by have := ti_lo n; have := ti_hi n; have := ti_lo x1; have := ti_hi x1; have t1 : Int32.toInt 1 = 1 := rfl; have t0 : Int32.toInt 0 = 0 := rfl; rw [vp_in_iff]; (try simp only [true_or, or_true, true_and, and_true, z_tn, CellsOk, CallsOk, TextOk, MemOk, OutOk, Int32.lt_iff_toInt_lt, Int32.le_iff_toInt_le, ← Int32.toInt_inj, Int32.toInt_add, Int32.toInt_sub, Int32.toInt_mul, Int32.toInt_neg, zbm, zbm', t1, t0] at c1 c2 hi ⊢) <;> omega) d_Cells_set_25 (fun H locs hP hD hS => ?_)
      have hP : va_P D classes [(h, .inr (1, [.ref a, .int n])), (a, .inl (cI, N, .inl (upd f ((n - 1) - x1).toNatClampNeg x2)))] H := hP
      have hD : va_D A [(h, .inr (1, [.ref a, .int n])), (a, .inl (cI, N, .inl (upd f ((n - 1) - x1).toNatClampNeg x2)))] := hD
      exact W.vret hx hb hr (fun t ht hW => ⟨⟨_, rfl, ⟨hF.symm, trivial⟩, ⟨by rw [ht]; exact hP, va_K.moved hW.alike hK, hD⟩⟩, hS.F ht⟩) hS.2.2 d_Cells_set_26
