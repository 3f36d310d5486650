theorem co_Law_feed : (Jvm.Cond.codeWith ({ cls := "ColonMachineLaw", name := "feed", desc := "(LColonMachine;JI[J)I" } : Jvm.MethodName) method_3_code (6 : Nat) (Option.some Jvm.ClassFile.FieldType.int) [((0 : Nat), (11 : Nat), (14 : Nat), (13 : Nat)), ((0 : Nat), (11 : Nat), (18 : Nat), (15 : Nat))]) ∈ TB := tbI2 _ (List.mem_of_getElem? (i := 63) rfl) rfl
theorem ml_Law_7 : (Jvm.Cond.methodLink "ColonMachineLaw" (7 : Nat) ({ cls := "ColonMachine", name := "feed", desc := "(JI)I" } : Jvm.MethodName)) ∈ TB := tbI2 _ (List.mem_of_getElem? (i := 66) rfl) rfl
theorem im_Mach_feed : (Jvm.Cond.instanceMethod ({ cls := "ColonMachine", name := "feed", desc := "(JI)I" } : Jvm.MethodName)) ∈ TB := tbI2 _ (List.mem_of_getElem? (i := 67) rfl) rfl
theorem se_Mach_feed : (Jvm.Cond.selects "ColonMachine" ({ cls := "ColonMachine", name := "feed", desc := "(JI)I" } : Jvm.MethodName) ({ cls := "ColonMachine", name := "feed", desc := "(JI)I" } : Jvm.MethodName)) ∈ TB := tbI2 _ (List.mem_of_getElem? (i := 68) rfl) rfl
theorem co_Law_run : (Jvm.Cond.codeWith ({ cls := "ColonMachineLaw", name := "run", desc := "(LColonMachine;I[J)I" } : Jvm.MethodName) method_4_code (4 : Nat) (Option.some Jvm.ClassFile.FieldType.int) [((0 : Nat), (9 : Nat), (12 : Nat), (13 : Nat))]) ∈ TB := tbI2 _ (List.mem_of_getElem? (i := 177) rfl) rfl
theorem ml_Law_17 : (Jvm.Cond.methodLink "ColonMachineLaw" (17 : Nat) ({ cls := "ColonMachine", name := "run", desc := "(I)I" } : Jvm.MethodName)) ∈ TB := tbI2 _ (List.mem_of_getElem? (i := 178) rfl) rfl
theorem im_Mach_run : (Jvm.Cond.instanceMethod ({ cls := "ColonMachine", name := "run", desc := "(I)I" } : Jvm.MethodName)) ∈ TB := tbI2 _ (List.mem_of_getElem? (i := 179) rfl) rfl
theorem se_Mach_run : (Jvm.Cond.selects "ColonMachine" ({ cls := "ColonMachine", name := "run", desc := "(I)I" } : Jvm.MethodName) ({ cls := "ColonMachine", name := "run", desc := "(I)I" } : Jvm.MethodName)) ∈ TB := tbI2 _ (List.mem_of_getElem? (i := 180) rfl) rfl
theorem co_Law_push : (Jvm.Cond.codeWith ({ cls := "ColonMachineLaw", name := "push", desc := "(LColonMachine;I)I" } : Jvm.MethodName) method_6_code (3 : Nat) (Option.some Jvm.ClassFile.FieldType.int) [((0 : Nat), (5 : Nat), (8 : Nat), (15 : Nat))]) ∈ TB := tbI7 _ (List.mem_of_getElem? (i := 37) rfl) rfl
theorem ml_Law_26 : (Jvm.Cond.methodLink "ColonMachineLaw" (26 : Nat) ({ cls := "ColonMachine", name := "push", desc := "(I)V" } : Jvm.MethodName)) ∈ TB := tbI7 _ (List.mem_of_getElem? (i := 38) rfl) rfl
theorem im_Mach_push : (Jvm.Cond.instanceMethod ({ cls := "ColonMachine", name := "push", desc := "(I)V" } : Jvm.MethodName)) ∈ TB := tbI7 _ (List.mem_of_getElem? (i := 39) rfl) rfl
theorem se_Mach_push : (Jvm.Cond.selects "ColonMachine" ({ cls := "ColonMachine", name := "push", desc := "(I)V" } : Jvm.MethodName) ({ cls := "ColonMachine", name := "push", desc := "(I)V" } : Jvm.MethodName)) ∈ TB := tbI7 _ (List.mem_of_getElem? (i := 40) rfl) rfl
theorem co_Law_peek : (Jvm.Cond.codeWith ({ cls := "ColonMachineLaw", name := "peek", desc := "(LColonMachine;I[J)I" } : Jvm.MethodName) method_7_code (4 : Nat) (Option.some Jvm.ClassFile.FieldType.int) [((0 : Nat), (9 : Nat), (12 : Nat), (24 : Nat))]) ∈ TB := tbI7 _ (List.mem_of_getElem? (i := 45) rfl) rfl
theorem ml_Law_30 : (Jvm.Cond.methodLink "ColonMachineLaw" (30 : Nat) ({ cls := "ColonMachine", name := "peek", desc := "(I)I" } : Jvm.MethodName)) ∈ TB := tbI7 _ (List.mem_of_getElem? (i := 46) rfl) rfl
theorem im_Mach_peek : (Jvm.Cond.instanceMethod ({ cls := "ColonMachine", name := "peek", desc := "(I)I" } : Jvm.MethodName)) ∈ TB := tbI7 _ (List.mem_of_getElem? (i := 47) rfl) rfl
theorem se_Mach_peek : (Jvm.Cond.selects "ColonMachine" ({ cls := "ColonMachine", name := "peek", desc := "(I)I" } : Jvm.MethodName) ({ cls := "ColonMachine", name := "peek", desc := "(I)I" } : Jvm.MethodName)) ∈ TB := tbI7 _ (List.mem_of_getElem? (i := 48) rfl) rfl
theorem kl_Law_13 : (Jvm.Cond.classLink "ColonMachineLaw" (13 : Nat) "java/lang/IllegalArgumentException") ∈ TB := tbI2 _ (List.mem_of_getElem? (i := 64) rfl) rfl
theorem co_Law_pick : (Jvm.Cond.codeWith ({ cls := "ColonMachineLaw", name := "pick", desc := "(LColonMachine;I[J)I" } : Jvm.MethodName) method_5_code (4 : Nat) (Option.some Jvm.ClassFile.FieldType.int) [((0 : Nat), (9 : Nat), (12 : Nat), (24 : Nat))]) ∈ TB := tbI7 _ (List.mem_of_getElem? (i := 16) rfl) rfl
theorem ml_Law_21 : (Jvm.Cond.methodLink "ColonMachineLaw" (21 : Nat) ({ cls := "ColonMachine", name := "pick", desc := "(I)I" } : Jvm.MethodName)) ∈ TB := tbI7 _ (List.mem_of_getElem? (i := 18) rfl) rfl
theorem im_Mach_pick : (Jvm.Cond.instanceMethod ({ cls := "ColonMachine", name := "pick", desc := "(I)I" } : Jvm.MethodName)) ∈ TB := tbI7 _ (List.mem_of_getElem? (i := 19) rfl) rfl
theorem se_Mach_pick : (Jvm.Cond.selects "ColonMachine" ({ cls := "ColonMachine", name := "pick", desc := "(I)I" } : Jvm.MethodName) ({ cls := "ColonMachine", name := "pick", desc := "(I)I" } : Jvm.MethodName)) ∈ TB := tbI7 _ (List.mem_of_getElem? (i := 20) rfl) rfl
theorem kl_Law_24 : (Jvm.Cond.classLink "ColonMachineLaw" (24 : Nat) "java/lang/IndexOutOfBoundsException") ∈ TB := tbI7 _ (List.mem_of_getElem? (i := 17) rfl) rfl
abbrev b_Law_feed : ByteArray := method_3_code
def y_Law_feed : MethodName := { cls := "ColonMachineLaw", name := "feed", desc := "(LColonMachine;JI[J)I" }
abbrev w_Law_feed : List Cond := .codeWith y_Law_feed b_Law_feed 6 (Option.some Jvm.ClassFile.FieldType.int) [((0 : Nat), (11 : Nat), (14 : Nat), (13 : Nat)), ((0 : Nat), (11 : Nat), (18 : Nat), (15 : Nat))] :: TB
theorem v_Mach_feed : y_Mach_feed.cls = "ColonMachine" ∧ y_Mach_feed.cls ≠ "java/lang/invoke/MethodHandle" ∧ y_Mach_feed.cls ≠ "java/lang/invoke/VarHandle" ∧ (parseMethodDescriptor y_Mach_feed.desc).map (fun d => d.parameters.length) = some 2 := by decide +kernel
abbrev b_Law_run : ByteArray := method_4_code
def y_Law_run : MethodName := { cls := "ColonMachineLaw", name := "run", desc := "(LColonMachine;I[J)I" }
abbrev w_Law_run : List Cond := .codeWith y_Law_run b_Law_run 4 (Option.some Jvm.ClassFile.FieldType.int) [((0 : Nat), (9 : Nat), (12 : Nat), (13 : Nat))] :: TB
theorem v_Mach_run : y_Mach_run.cls = "ColonMachine" ∧ y_Mach_run.cls ≠ "java/lang/invoke/MethodHandle" ∧ y_Mach_run.cls ≠ "java/lang/invoke/VarHandle" ∧ (parseMethodDescriptor y_Mach_run.desc).map (fun d => d.parameters.length) = some 1 := by decide +kernel
abbrev b_Law_push : ByteArray := method_6_code
def y_Law_push : MethodName := { cls := "ColonMachineLaw", name := "push", desc := "(LColonMachine;I)I" }
abbrev w_Law_push : List Cond := .codeWith y_Law_push b_Law_push 3 (Option.some Jvm.ClassFile.FieldType.int) [((0 : Nat), (5 : Nat), (8 : Nat), (15 : Nat))] :: TB
theorem v_Mach_push : y_Mach_push.cls = "ColonMachine" ∧ y_Mach_push.cls ≠ "java/lang/invoke/MethodHandle" ∧ y_Mach_push.cls ≠ "java/lang/invoke/VarHandle" ∧ (parseMethodDescriptor y_Mach_push.desc).map (fun d => d.parameters.length) = some 1 := by decide +kernel
abbrev b_Law_peek : ByteArray := method_7_code
def y_Law_peek : MethodName := { cls := "ColonMachineLaw", name := "peek", desc := "(LColonMachine;I[J)I" }
abbrev w_Law_peek : List Cond := .codeWith y_Law_peek b_Law_peek 4 (Option.some Jvm.ClassFile.FieldType.int) [((0 : Nat), (9 : Nat), (12 : Nat), (24 : Nat))] :: TB
theorem v_Mach_peek : y_Mach_peek.cls = "ColonMachine" ∧ y_Mach_peek.cls ≠ "java/lang/invoke/MethodHandle" ∧ y_Mach_peek.cls ≠ "java/lang/invoke/VarHandle" ∧ (parseMethodDescriptor y_Mach_peek.desc).map (fun d => d.parameters.length) = some 1 := by decide +kernel
abbrev b_Law_pick : ByteArray := method_5_code
def y_Law_pick : MethodName := { cls := "ColonMachineLaw", name := "pick", desc := "(LColonMachine;I[J)I" }
abbrev w_Law_pick : List Cond := .codeWith y_Law_pick b_Law_pick 4 (Option.some Jvm.ClassFile.FieldType.int) [((0 : Nat), (9 : Nat), (12 : Nat), (24 : Nat))] :: TB
theorem v_Mach_pick : y_Mach_pick.cls = "ColonMachine" ∧ y_Mach_pick.cls ≠ "java/lang/invoke/MethodHandle" ∧ y_Mach_pick.cls ≠ "java/lang/invoke/VarHandle" ∧ (parseMethodDescriptor y_Mach_pick.desc).map (fun d => d.parameters.length) = some 1 := by decide +kernel
theorem d_Law_feed_0 : decode b_Law_feed 0 = .ok (.aload 4, 2) := by decide +kernel
theorem d_Law_feed_2 : decode b_Law_feed 2 = .ok (.iconst 0, 1) := by decide +kernel
theorem d_Law_feed_3 : decode b_Law_feed 3 = .ok (.aload_n 0, 1) := by decide +kernel
theorem d_Law_feed_4 : decode b_Law_feed 4 = .ok (.lload_n 1, 1) := by decide +kernel
theorem d_Law_feed_5 : decode b_Law_feed 5 = .ok (.iload_n 3, 1) := by decide +kernel
theorem d_Law_feed_6 : decode b_Law_feed 6 = .ok (.invokevirtual 7, 3) := by decide +kernel
theorem d_Law_feed_9 : decode b_Law_feed 9 = .ok (.i2l, 1) := by decide +kernel
theorem d_Law_feed_10 : decode b_Law_feed 10 = .ok (.lastore, 1) := by decide +kernel
theorem d_Law_feed_11 : decode b_Law_feed 11 = .ok (.goto 11, 3) := by decide +kernel
theorem d_Law_feed_22 : decode b_Law_feed 22 = .ok (.iconst 0, 1) := by decide +kernel
theorem d_Law_feed_23 : decode b_Law_feed 23 = .ok (.ireturn, 1) := by decide +kernel
theorem d_Law_run_0 : decode b_Law_run 0 = .ok (.aload_n 2, 1) := by decide +kernel
theorem d_Law_run_1 : decode b_Law_run 1 = .ok (.iconst 0, 1) := by decide +kernel
theorem d_Law_run_2 : decode b_Law_run 2 = .ok (.aload_n 0, 1) := by decide +kernel
theorem d_Law_run_3 : decode b_Law_run 3 = .ok (.iload_n 1, 1) := by decide +kernel
theorem d_Law_run_4 : decode b_Law_run 4 = .ok (.invokevirtual 17, 3) := by decide +kernel
theorem d_Law_run_7 : decode b_Law_run 7 = .ok (.i2l, 1) := by decide +kernel
theorem d_Law_run_8 : decode b_Law_run 8 = .ok (.lastore, 1) := by decide +kernel
theorem d_Law_run_9 : decode b_Law_run 9 = .ok (.goto 6, 3) := by decide +kernel
theorem d_Law_run_15 : decode b_Law_run 15 = .ok (.iconst 0, 1) := by decide +kernel
theorem d_Law_run_16 : decode b_Law_run 16 = .ok (.ireturn, 1) := by decide +kernel
theorem d_Law_push_0 : decode b_Law_push 0 = .ok (.aload_n 0, 1) := by decide +kernel
theorem d_Law_push_1 : decode b_Law_push 1 = .ok (.iload_n 1, 1) := by decide +kernel
theorem d_Law_push_2 : decode b_Law_push 2 = .ok (.invokevirtual 26, 3) := by decide +kernel
theorem d_Law_push_5 : decode b_Law_push 5 = .ok (.goto 6, 3) := by decide +kernel
theorem d_Law_push_11 : decode b_Law_push 11 = .ok (.iconst 0, 1) := by decide +kernel
theorem d_Law_push_12 : decode b_Law_push 12 = .ok (.ireturn, 1) := by decide +kernel
theorem d_Law_peek_0 : decode b_Law_peek 0 = .ok (.aload_n 2, 1) := by decide +kernel
theorem d_Law_peek_1 : decode b_Law_peek 1 = .ok (.iconst 0, 1) := by decide +kernel
theorem d_Law_peek_2 : decode b_Law_peek 2 = .ok (.aload_n 0, 1) := by decide +kernel
theorem d_Law_peek_3 : decode b_Law_peek 3 = .ok (.iload_n 1, 1) := by decide +kernel
theorem d_Law_peek_4 : decode b_Law_peek 4 = .ok (.invokevirtual 30, 3) := by decide +kernel
theorem d_Law_peek_7 : decode b_Law_peek 7 = .ok (.i2l, 1) := by decide +kernel
theorem d_Law_peek_8 : decode b_Law_peek 8 = .ok (.lastore, 1) := by decide +kernel
theorem d_Law_peek_9 : decode b_Law_peek 9 = .ok (.goto 6, 3) := by decide +kernel
theorem d_Law_peek_15 : decode b_Law_peek 15 = .ok (.iconst 0, 1) := by decide +kernel
theorem d_Law_peek_16 : decode b_Law_peek 16 = .ok (.ireturn, 1) := by decide +kernel
theorem d_Law_feed_14 : decode b_Law_feed 14 = .ok (.astore 5, 2) := by decide +kernel
theorem d_Law_feed_16 : decode b_Law_feed 16 = .ok (.iconst 1, 1) := by decide +kernel
theorem d_Law_feed_17 : decode b_Law_feed 17 = .ok (.ireturn, 1) := by decide +kernel
theorem d_Law_run_12 : decode b_Law_run 12 = .ok (.astore_n 3, 1) := by decide +kernel
theorem d_Law_run_13 : decode b_Law_run 13 = .ok (.iconst 1, 1) := by decide +kernel
theorem d_Law_run_14 : decode b_Law_run 14 = .ok (.ireturn, 1) := by decide +kernel
theorem d_Law_pick_0 : decode b_Law_pick 0 = .ok (.aload_n 2, 1) := by decide +kernel
theorem d_Law_pick_1 : decode b_Law_pick 1 = .ok (.iconst 0, 1) := by decide +kernel
theorem d_Law_pick_2 : decode b_Law_pick 2 = .ok (.aload_n 0, 1) := by decide +kernel
theorem d_Law_pick_3 : decode b_Law_pick 3 = .ok (.iload_n 1, 1) := by decide +kernel
theorem d_Law_pick_4 : decode b_Law_pick 4 = .ok (.invokevirtual 21, 3) := by decide +kernel
theorem d_Law_pick_12 : decode b_Law_pick 12 = .ok (.astore_n 3, 1) := by decide +kernel
theorem d_Law_pick_13 : decode b_Law_pick 13 = .ok (.iconst 1, 1) := by decide +kernel
theorem d_Law_pick_14 : decode b_Law_pick 14 = .ok (.ireturn, 1) := by decide +kernel
theorem d_Law_peek_12 : decode b_Law_peek 12 = .ok (.astore_n 3, 1) := by decide +kernel
theorem d_Law_peek_13 : decode b_Law_peek 13 = .ok (.iconst 1, 1) := by decide +kernel
theorem d_Law_peek_14 : decode b_Law_peek 14 = .ok (.ireturn, 1) := by decide +kernel
/-- the picture of ColonMachineLaw.feed -/
def F_Law_feed0 (tb : Int32) (te : Int32) (tf : Nat → Int32) (fo : Nat → Int64) (x2 : Int64) (x3 : Int32) : Int32 × (Nat → Int64) := bd (F_Mach_feed0 tb te tf x2 x3) (fun q1 => (0, vp_updL fo (0 : Int32).toNatClampNeg q1.1.toInt64))
theorem F_Law_feed0_e (tb : Int32) (te : Int32) (tf : Nat → Int32) (fo : Nat → Int64) (x2 : Int64) (x3 : Int32) : F_Law_feed0 tb te tf fo x2 x3 = bd (F_Mach_feed0 tb te tf x2 x3) (fun q1 => (0, vp_updL fo (0 : Int32).toNatClampNeg q1.1.toInt64)) := rfl
set_option maxHeartbeats 4000000 in
set_option maxRecDepth 100000 in
theorem c_Law_feed0 (l : Launch) (D : va_G) (cI cJ cZ cW cT : ClassId) (sz : Nat) (hm : Nat) (dd : Nat) (rr : Nat) (kc : Nat) (mm : Nat) (oo : Nat) (tt : Nat) (ww : Nat) (kk : Nat) (pp : Nat) (ta : Nat) (ao : Nat) (lc : Int32) (tb : Int32) (te : Int32) (tw : Int32) (tx : Int32) (tf : Nat → Int32) (fo : Nat → Int64) (x2 : Int64) (x3 : Int32) (hit : TextOk tb te tw tx) (hp : tb.toInt = 0) (hq : te.toInt = 0) (hn : 1 ≤ x3.toInt) (hm8 : x3.toInt ≤ 8) : Met l y_Law_feed w_Law_feed ({ frames := 3, cells := 0, slots := 0, locals := 74 }) (va_Pc [.ref hm, .long x2, .int x3, .ref ao] (zP D classes (TY cI cJ cZ cW cT) [(hm, .inr (10, [.ref dd, .ref rr, .ref kc, .ref mm, .ref oo, .ref tt, .ref ww, .ref kk, .ref pp, .int lc])), (tt, .inr (7, [.ref ta, .int tb, .int te, .int tw, .int tx])), (ta, .inl (cI, 500, .inl tf)), (ao, .inl (cJ, 1, .inr (.inl fo)))] sz)) (va_Qi (fun (r : Int32) (u : (Nat → Int64)) => (r, u) = F_Law_feed0 tb te tf fo x2 x3 ∧ (((u 0).toInt = x3.toInt) ∧ (r.toInt = 0))) (fun u => zB D classes (TY cI cJ cZ cW cT) (va_A [(hm, .inr (10, [.ref dd, .ref rr, .ref kc, .ref mm, .ref oo, .ref tt, .ref ww, .ref kk, .ref pp, .int lc])), (tt, .inr (7, [.ref ta, .int tb, .int te, .int tw, .int tx])), (ta, .inl (cI, 500, .inl tf)), (ao, .inl (cJ, 1, .inr (.inl fo)))] sz) [(ao, .inl (cJ, 1, .inr (.inl u)))]) (va_A [(hm, .inr (10, [.ref dd, .ref rr, .ref kc, .ref mm, .ref oo, .ref tt, .ref ww, .ref kk, .ref pp, .int lc])), (tt, .inr (7, [.ref ta, .int tb, .int te, .int tw, .int tx])), (ta, .inl (cI, 500, .inl tf)), (ao, .inl (cJ, 1, .inr (.inl fo)))] sz)) 0 0 (va_A [(hm, .inr (10, [.ref dd, .ref rr, .ref kc, .ref mm, .ref oo, .ref tt, .ref ww, .ref kk, .ref pp, .int lc])), (tt, .inr (7, [.ref ta, .int tb, .int te, .int tw, .int tx])), (ta, .inl (cI, 500, .inl tf)), (ao, .inl (cJ, 1, .inr (.inl fo)))] sz) := by
  refine Met.ofWith (hs := [(0, 11, 14, 13), (0, 11, 18, 15)]) (cc := b_Law_feed) (maxL := 6) (ret := (some .int)) (by decide) rfl ?_
  intro p e s m args below meth c s₁ B hml hta hv
  obtain ⟨rfl, hsz, hP, hK, hD0, hE⟩ := hv
  have hx := B.exec
  have hb := B.bytes
  have hr := B.returns
  have hts := atoms_spec (ws := w_Law_feed) B.pre
  have hT : ∀ w ∈ TB, w.before _ s = true := fun w h => hts w (List.mem_cons_of_mem _ h)
  have hown : s.vm.findClass "ColonMachineLaw" = some m.cls := findClass_of_methodNamed B.named
  have hlocks := B.notSynchronized
  subst hsz
  have hD := hD0.self (sz := s.heap.size)
  generalize hAe : va_A [(hm, .inr (10, [.ref dd, .ref rr, .ref kc, .ref mm, .ref oo, .ref tt, .ref ww, .ref kk, .ref pp, .int lc])), (tt, .inr (7, [.ref ta, .int tb, .int te, .int tw, .int tx])), (ta, .inl (cI, 500, .inl tf)), (ao, .inl (cJ, 1, .inr (.inl fo)))] s.heap.size = A at hD hE ⊢
  have hA : ∀ q : Nat, s.heap.size ≤ q → A q := fun q h => by rw [← hAe]; exact Or.inr h
  have hS : va_S A s.heap s.heap [] := va_S.rf
  have hl := lv_entry [.ref hm, .long x2, .int x3, .ref ao] (n := 6) (Nat.le_of_ble_eq_true rfl)
  rw [lg_entry_eq]
  generalize (lg_sl [.ref hm, .long x2, .int x3, .ref ao] ++ List.replicate (6 - (lg_sl [.ref hm, .long x2, .int x3, .ref ao]).length) Slot.unset).toArray = ls at hl ⊢
  have hl : lv_has ls 6 [(0, .ref hm), (1, .long x2), (3, .int x3), (4, .ref ao)] := hl
  have hF := F_Law_feed0_e tb te tf fo x2 x3
  refine lv_aload hx hb d_Law_feed_0 (lv_at hl 3 rfl) ?_
  refine lv_iconst (v := 0) hx hb d_Law_feed_2 (by decide) ?_
  refine lv_aload_n hx hb d_Law_feed_3 rfl (lv_at hl 0 rfl) ?_
  refine lv_lload_n hx hb d_Law_feed_4 rfl (lv_at hl 1 rfl) ?_
  refine lv_iload_n hx hb d_Law_feed_5 rfl (lv_at hl 2 rfl) ?_
  refine kN_si (wr := [(ao, .inl (cJ, 1, .inr (.inl fo)))]) (fun u : Int32 × Int32 × Int32 × Int32 × (Nat → Int32) => [(hm, .inr (10, [.ref dd, .ref rr, .ref kc, .ref mm, .ref oo, .ref tt, .ref ww, .ref kk, .ref pp, .int lc])), (tt, .inr (7, [.ref ta, .int u.1, .int u.2.1, .int u.2.2.1, .int u.2.2.2.1])), (ta, .inl (cI, 500, .inl u.2.2.2.2)), (ao, .inl (cJ, 1, .inr (.inl fo)))]) (zV (wc := [(hm, .inr (10, [.ref dd, .ref rr, .ref kc, .ref mm, .ref oo, .ref tt, .ref ww, .ref kk, .ref pp, .int lc])), (tt, .inr (7, [.ref ta, .int tb, .int te, .int tw, .int tx])), (ta, .inl (cI, 500, .inl tf))]) (As := [.long x2, .int x3]) (rest := [.int 0, .ref ao]) (st0 := [.int x3, .long x2, .ref hm, .int 0, .ref ao]) ⟨hx, hb, hml, hown, hT⟩ (c_Mach_feed0 l D cI cJ cZ cW cT s.heap.size hm dd rr kc mm oo tt ww kk pp ta lc tb te tw tx tf x2 x3 hit hp hq hn hm8) (cwV 2 hT (tbV ml_Law_7 im_Mach_feed se_Mach_feed in_Mach co_Mach_feed) rfl rfl rfl v_Mach_feed ⟨Nat.le_of_ble_eq_true rfl, Nat.le_of_ble_eq_true rfl⟩) hK hE hP hD hS hA [0, 1, 2] rfl rfl 0 rfl rfl rfl hl.1 rfl (Nat.le_of_ble_eq_true rfl) d_Law_feed_6 ⟨Nat.le_of_ble_eq_true rfl, Nat.le_of_ble_eq_true rfl⟩) hP hD hS hA [0, 1, 2] [3] rfl rfl rfl (by decide) [1, 2, 3, 0] rfl (fun u => rfl) (fun q1 H locs e1 k1 hP hD hS => ?_)
  have hP : va_P D classes [(hm, .inr (10, [.ref dd, .ref rr, .ref kc, .ref mm, .ref oo, .ref tt, .ref ww, .ref kk, .ref pp, .int lc])), (tt, .inr (7, [.ref ta, .int q1.2.1, .int q1.2.2.1, .int q1.2.2.2.1, .int q1.2.2.2.2.1])), (ta, .inl (cI, 500, .inl q1.2.2.2.2.2)), (ao, .inl (cJ, 1, .inr (.inl fo)))] H := hP
  have hD : va_D A [(hm, .inr (10, [.ref dd, .ref rr, .ref kc, .ref mm, .ref oo, .ref tt, .ref ww, .ref kk, .ref pp, .int lc])), (tt, .inr (7, [.ref ta, .int q1.2.1, .int q1.2.2.1, .int q1.2.2.2.1, .int q1.2.2.2.2.1])), (ta, .inl (cI, 500, .inl q1.2.2.2.2.2)), (ao, .inl (cJ, 1, .inr (.inl fo)))] := hD
  have hF := hF.trans (bd_e e1)
  refine lv_i2l (v := q1.1.toInt64) hx hb d_Law_feed_9 rfl ?_
  refine va_last hx hb hK hP hD hS 3 1 rfl rfl (by have := ti_lo tb; have := ti_hi tb; have := ti_lo te; have := ti_hi te; have := ti_lo tw; have := ti_hi tw; have := ti_lo tx; have := ti_hi tx; have := ti_lo x3; have := ti_hi x3; have t0 : Int32.toInt 0 = 0 := rfl; have t1 : Int32.toInt 1 = 1 := rfl; have t8 : Int32.toInt 8 = 8 := rfl; rw [vp_in_iff]; (try simp only [true_or, or_true, true_and, and_true, z_tn, CellsOk, CallsOk, TextOk, MemOk, OutOk, Int32.lt_iff_toInt_lt, Int32.le_iff_toInt_le, ← Int32.toInt_inj, Int32.toInt_add, Int32.toInt_sub, Int32.toInt_mul, Int32.toInt_neg, zbm, zbm', t0, t1, t8] at hit hp hq hn hm8 k1 ⊢) <;> omega) d_Law_feed_10 (fun H locs hP hD hS => ?_)
  have hP : va_P D classes [(hm, .inr (10, [.ref dd, .ref rr, .ref kc, .ref mm, .ref oo, .ref tt, .ref ww, .ref kk, .ref pp, .int lc])), (tt, .inr (7, [.ref ta, .int q1.2.1, .int q1.2.2.1, .int q1.2.2.2.1, .int q1.2.2.2.2.1])), (ta, .inl (cI, 500, .inl q1.2.2.2.2.2)), (ao, .inl (cJ, 1, .inr (.inl (vp_updL fo (0 : Int32).toNatClampNeg q1.1.toInt64))))] H := hP
  have hD : va_D A [(hm, .inr (10, [.ref dd, .ref rr, .ref kc, .ref mm, .ref oo, .ref tt, .ref ww, .ref kk, .ref pp, .int lc])), (tt, .inr (7, [.ref ta, .int q1.2.1, .int q1.2.2.1, .int q1.2.2.2.1, .int q1.2.2.2.2.1])), (ta, .inl (cI, 500, .inl q1.2.2.2.2.2)), (ao, .inl (cJ, 1, .inr (.inl (vp_updL fo (0 : Int32).toNatClampNeg q1.1.toInt64))))] := hD
  refine lv_goto (tgt := 22) hx hb d_Law_feed_11 (by decide) ?_
  refine lv_iconst (v := 0) hx hb d_Law_feed_22 (by decide) ?_
  exact W.iret (v := 0) hx hb hr (fun t ht hW => ⟨⟨_, _, rfl, ⟨hF.symm, ⟨(z_o0 (by have := ti_lo tb; have := ti_hi tb; have := ti_lo te; have := ti_hi te; have := ti_lo tw; have := ti_hi tw; have := ti_lo tx; have := ti_hi tx; have := ti_lo x3; have := ti_hi x3; have t0 : Int32.toInt 0 = 0 := rfl; have t1 : Int32.toInt 1 = 1 := rfl; have t8 : Int32.toInt 8 = 8 := rfl; (try simp only [true_or, or_true, true_and, and_true, z_tn, CellsOk, CallsOk, TextOk, MemOk, OutOk, Int32.lt_iff_toInt_lt, Int32.le_iff_toInt_le, ← Int32.toInt_inj, Int32.toInt_add, Int32.toInt_sub, Int32.toInt_mul, Int32.toInt_neg, zbm, zbm', t0, t1, t8] at hit hp hq hn hm8 k1 ⊢) <;> omega)), (by have := ti_lo tb; have := ti_hi tb; have := ti_lo te; have := ti_hi te; have := ti_lo tw; have := ti_hi tw; have := ti_lo tx; have := ti_hi tx; have := ti_lo x3; have := ti_hi x3; have t0 : Int32.toInt 0 = 0 := rfl; have t1 : Int32.toInt 1 = 1 := rfl; have t8 : Int32.toInt 8 = 8 := rfl; (try simp only [true_or, or_true, true_and, and_true, z_tn, CellsOk, CallsOk, TextOk, MemOk, OutOk, Int32.lt_iff_toInt_lt, Int32.le_iff_toInt_le, ← Int32.toInt_inj, Int32.toInt_add, Int32.toInt_sub, Int32.toInt_mul, Int32.toInt_neg, zbm, zbm', t0, t1, t8] at hit hp hq hn hm8 k1 ⊢) <;> omega)⟩⟩, ⟨by rw [ht]; exact zPs hP [3] rfl, va_K.moved hW.alike hK, hD.sub [3] rfl rfl⟩⟩, hS.F ht⟩) hS.2.2 d_Law_feed_23
/-- the picture of ColonMachineLaw.run -/
def F_Law_run0 (cn : Int32) (tb : Int32) (te : Int32) (tf : Nat → Int32) (fo : Nat → Int64) : Int32 × (Nat → Int64) := bd (F_Mach_run0 cn tb te tf) (fun q1 => (0, vp_updL fo (0 : Int32).toNatClampNeg q1.1.toInt64))
theorem F_Law_run0_e (cn : Int32) (tb : Int32) (te : Int32) (tf : Nat → Int32) (fo : Nat → Int64) : F_Law_run0 cn tb te tf fo = bd (F_Mach_run0 cn tb te tf) (fun q1 => (0, vp_updL fo (0 : Int32).toNatClampNeg q1.1.toInt64)) := rfl
set_option maxHeartbeats 4000000 in
set_option maxRecDepth 100000 in
theorem c_Law_run0 (l : Launch) (D : va_G) (cI cJ cZ cW cT : ClassId) (sz : Nat) (hm : Nat) (dd : Nat) (rr : Nat) (kc : Nat) (mm : Nat) (oo : Nat) (tt : Nat) (ww : Nat) (kk : Nat) (pp : Nat) (ko : Nat) (kp : Nat) (kr : Nat) (kd : Nat) (ta : Nat) (ao : Nat) (lc : Int32) (cn : Int32) (tb : Int32) (te : Int32) (tw : Int32) (tx : Int32) (tf : Nat → Int32) (fo : Nat → Int64) (x2 : Int32) (hic : CallsOk cn) (hit : TextOk tb te tw tx) (hp : tb.toInt = 0) (hq : te.toInt = 0) (hc : cn.toInt = 0) (hn : 1 ≤ x2.toInt) (hm8 : x2.toInt ≤ 5000) : Met l y_Law_run w_Law_run ({ frames := 3, cells := 0, slots := 0, locals := 63 }) (va_Pc [.ref hm, .int x2, .ref ao] (zP D classes (TY cI cJ cZ cW cT) [(hm, .inr (10, [.ref dd, .ref rr, .ref kc, .ref mm, .ref oo, .ref tt, .ref ww, .ref kk, .ref pp, .int lc])), (kc, .inr (0, [.ref ko, .ref kp, .ref kr, .ref kd, .int cn])), (tt, .inr (7, [.ref ta, .int tb, .int te, .int tw, .int tx])), (ta, .inl (cI, 500, .inl tf)), (ao, .inl (cJ, 1, .inr (.inl fo)))] sz)) (va_Qi (fun (r : Int32) (u : (Nat → Int64)) => (r, u) = F_Law_run0 cn tb te tf fo ∧ (((u 0).toInt = 0) ∧ (r.toInt = 0))) (fun u => zB D classes (TY cI cJ cZ cW cT) (va_A [(hm, .inr (10, [.ref dd, .ref rr, .ref kc, .ref mm, .ref oo, .ref tt, .ref ww, .ref kk, .ref pp, .int lc])), (kc, .inr (0, [.ref ko, .ref kp, .ref kr, .ref kd, .int cn])), (tt, .inr (7, [.ref ta, .int tb, .int te, .int tw, .int tx])), (ta, .inl (cI, 500, .inl tf)), (ao, .inl (cJ, 1, .inr (.inl fo)))] sz) [(ao, .inl (cJ, 1, .inr (.inl u)))]) (va_A [(hm, .inr (10, [.ref dd, .ref rr, .ref kc, .ref mm, .ref oo, .ref tt, .ref ww, .ref kk, .ref pp, .int lc])), (kc, .inr (0, [.ref ko, .ref kp, .ref kr, .ref kd, .int cn])), (tt, .inr (7, [.ref ta, .int tb, .int te, .int tw, .int tx])), (ta, .inl (cI, 500, .inl tf)), (ao, .inl (cJ, 1, .inr (.inl fo)))] sz)) 0 0 (va_A [(hm, .inr (10, [.ref dd, .ref rr, .ref kc, .ref mm, .ref oo, .ref tt, .ref ww, .ref kk, .ref pp, .int lc])), (kc, .inr (0, [.ref ko, .ref kp, .ref kr, .ref kd, .int cn])), (tt, .inr (7, [.ref ta, .int tb, .int te, .int tw, .int tx])), (ta, .inl (cI, 500, .inl tf)), (ao, .inl (cJ, 1, .inr (.inl fo)))] sz) := by
  refine Met.ofWith (hs := [(0, 9, 12, 13)]) (cc := b_Law_run) (maxL := 4) (ret := (some .int)) (by decide) rfl ?_
  intro p e s m args below meth c s₁ B hml hta hv
  obtain ⟨rfl, hsz, hP, hK, hD0, hE⟩ := hv
  have hx := B.exec
  have hb := B.bytes
  have hr := B.returns
  have hts := atoms_spec (ws := w_Law_run) B.pre
  have hT : ∀ w ∈ TB, w.before _ s = true := fun w h => hts w (List.mem_cons_of_mem _ h)
  have hown : s.vm.findClass "ColonMachineLaw" = some m.cls := findClass_of_methodNamed B.named
  have hlocks := B.notSynchronized
  subst hsz
  have hD := hD0.self (sz := s.heap.size)
  generalize hAe : va_A [(hm, .inr (10, [.ref dd, .ref rr, .ref kc, .ref mm, .ref oo, .ref tt, .ref ww, .ref kk, .ref pp, .int lc])), (kc, .inr (0, [.ref ko, .ref kp, .ref kr, .ref kd, .int cn])), (tt, .inr (7, [.ref ta, .int tb, .int te, .int tw, .int tx])), (ta, .inl (cI, 500, .inl tf)), (ao, .inl (cJ, 1, .inr (.inl fo)))] s.heap.size = A at hD hE ⊢
  have hA : ∀ q : Nat, s.heap.size ≤ q → A q := fun q h => by rw [← hAe]; exact Or.inr h
  have hS : va_S A s.heap s.heap [] := va_S.rf
  have hl := lv_entry [.ref hm, .int x2, .ref ao] (n := 4) (Nat.le_of_ble_eq_true rfl)
  rw [lg_entry_eq]
  generalize (lg_sl [.ref hm, .int x2, .ref ao] ++ List.replicate (4 - (lg_sl [.ref hm, .int x2, .ref ao]).length) Slot.unset).toArray = ls at hl ⊢
  have hl : lv_has ls 4 [(0, .ref hm), (1, .int x2), (2, .ref ao)] := hl
  have hF := F_Law_run0_e cn tb te tf fo
  refine lv_aload_n hx hb d_Law_run_0 rfl (lv_at hl 2 rfl) ?_
  refine lv_iconst (v := 0) hx hb d_Law_run_1 (by decide) ?_
  refine lv_aload_n hx hb d_Law_run_2 rfl (lv_at hl 0 rfl) ?_
  refine lv_iload_n hx hb d_Law_run_3 rfl (lv_at hl 1 rfl) ?_
  refine kN_si (wr := [(ao, .inl (cJ, 1, .inr (.inl fo)))]) (fun u : Int32 => [(hm, .inr (10, [.ref dd, .ref rr, .ref kc, .ref mm, .ref oo, .ref tt, .ref ww, .ref kk, .ref pp, .int lc])), (kc, .inr (0, [.ref ko, .ref kp, .ref kr, .ref kd, .int cn])), (tt, .inr (7, [.ref ta, .int u, .int te, .int tw, .int tx])), (ta, .inl (cI, 500, .inl tf)), (ao, .inl (cJ, 1, .inr (.inl fo)))]) (zV (wc := [(hm, .inr (10, [.ref dd, .ref rr, .ref kc, .ref mm, .ref oo, .ref tt, .ref ww, .ref kk, .ref pp, .int lc])), (kc, .inr (0, [.ref ko, .ref kp, .ref kr, .ref kd, .int cn])), (tt, .inr (7, [.ref ta, .int tb, .int te, .int tw, .int tx])), (ta, .inl (cI, 500, .inl tf))]) (As := [.int x2]) (rest := [.int 0, .ref ao]) (st0 := [.int x2, .ref hm, .int 0, .ref ao]) ⟨hx, hb, hml, hown, hT⟩ (c_Mach_run0 l D cI cJ cZ cW cT s.heap.size hm dd rr kc mm oo tt ww kk pp ko kp kr kd ta lc cn tb te tw tx tf x2 hic hit hp hq hc hn hm8) (cwV 1 hT (tbV ml_Law_17 im_Mach_run se_Mach_run in_Mach co_Mach_run) rfl rfl rfl v_Mach_run ⟨Nat.le_of_ble_eq_true rfl, Nat.le_of_ble_eq_true rfl⟩) hK hE hP hD hS hA [0, 1, 2, 3] rfl rfl 0 rfl rfl rfl hl.1 rfl (Nat.le_of_ble_eq_true rfl) d_Law_run_4 ⟨Nat.le_of_ble_eq_true rfl, Nat.le_of_ble_eq_true rfl⟩) hP hD hS hA [0, 1, 2, 3] [4] rfl rfl rfl (by decide) [1, 2, 3, 4, 0] rfl (fun u => rfl) (fun q1 H locs e1 k1 hP hD hS => ?_)
  have hP : va_P D classes [(hm, .inr (10, [.ref dd, .ref rr, .ref kc, .ref mm, .ref oo, .ref tt, .ref ww, .ref kk, .ref pp, .int lc])), (kc, .inr (0, [.ref ko, .ref kp, .ref kr, .ref kd, .int cn])), (tt, .inr (7, [.ref ta, .int q1.2, .int te, .int tw, .int tx])), (ta, .inl (cI, 500, .inl tf)), (ao, .inl (cJ, 1, .inr (.inl fo)))] H := hP
  have hD : va_D A [(hm, .inr (10, [.ref dd, .ref rr, .ref kc, .ref mm, .ref oo, .ref tt, .ref ww, .ref kk, .ref pp, .int lc])), (kc, .inr (0, [.ref ko, .ref kp, .ref kr, .ref kd, .int cn])), (tt, .inr (7, [.ref ta, .int q1.2, .int te, .int tw, .int tx])), (ta, .inl (cI, 500, .inl tf)), (ao, .inl (cJ, 1, .inr (.inl fo)))] := hD
  have hF := hF.trans (bd_e e1)
  refine lv_i2l (v := q1.1.toInt64) hx hb d_Law_run_7 rfl ?_
  refine va_last hx hb hK hP hD hS 4 1 rfl rfl (by have := ti_lo cn; have := ti_hi cn; have := ti_lo tb; have := ti_hi tb; have := ti_lo te; have := ti_hi te; have := ti_lo tw; have := ti_hi tw; have := ti_lo tx; have := ti_hi tx; have t0 : Int32.toInt 0 = 0 := rfl; have t1 : Int32.toInt 1 = 1 := rfl; have t5000 : Int32.toInt 5000 = 5000 := rfl; rw [vp_in_iff]; (try simp only [true_or, or_true, true_and, and_true, z_tn, CellsOk, CallsOk, TextOk, MemOk, OutOk, Int32.lt_iff_toInt_lt, Int32.le_iff_toInt_le, ← Int32.toInt_inj, Int32.toInt_add, Int32.toInt_sub, Int32.toInt_mul, Int32.toInt_neg, zbm, zbm', t0, t1, t5000] at hic hit hp hq hc hn hm8 k1 ⊢) <;> omega) d_Law_run_8 (fun H locs hP hD hS => ?_)
  have hP : va_P D classes [(hm, .inr (10, [.ref dd, .ref rr, .ref kc, .ref mm, .ref oo, .ref tt, .ref ww, .ref kk, .ref pp, .int lc])), (kc, .inr (0, [.ref ko, .ref kp, .ref kr, .ref kd, .int cn])), (tt, .inr (7, [.ref ta, .int q1.2, .int te, .int tw, .int tx])), (ta, .inl (cI, 500, .inl tf)), (ao, .inl (cJ, 1, .inr (.inl (vp_updL fo (0 : Int32).toNatClampNeg q1.1.toInt64))))] H := hP
  have hD : va_D A [(hm, .inr (10, [.ref dd, .ref rr, .ref kc, .ref mm, .ref oo, .ref tt, .ref ww, .ref kk, .ref pp, .int lc])), (kc, .inr (0, [.ref ko, .ref kp, .ref kr, .ref kd, .int cn])), (tt, .inr (7, [.ref ta, .int q1.2, .int te, .int tw, .int tx])), (ta, .inl (cI, 500, .inl tf)), (ao, .inl (cJ, 1, .inr (.inl (vp_updL fo (0 : Int32).toNatClampNeg q1.1.toInt64))))] := hD
  refine lv_goto (tgt := 15) hx hb d_Law_run_9 (by decide) ?_
  refine lv_iconst (v := 0) hx hb d_Law_run_15 (by decide) ?_
  exact W.iret (v := 0) hx hb hr (fun t ht hW => ⟨⟨_, _, rfl, ⟨hF.symm, ⟨(z_o0 (by have := ti_lo cn; have := ti_hi cn; have := ti_lo tb; have := ti_hi tb; have := ti_lo te; have := ti_hi te; have := ti_lo tw; have := ti_hi tw; have := ti_lo tx; have := ti_hi tx; have t0 : Int32.toInt 0 = 0 := rfl; have t1 : Int32.toInt 1 = 1 := rfl; have t5000 : Int32.toInt 5000 = 5000 := rfl; (try simp only [true_or, or_true, true_and, and_true, z_tn, CellsOk, CallsOk, TextOk, MemOk, OutOk, Int32.lt_iff_toInt_lt, Int32.le_iff_toInt_le, ← Int32.toInt_inj, Int32.toInt_add, Int32.toInt_sub, Int32.toInt_mul, Int32.toInt_neg, zbm, zbm', t0, t1, t5000] at hic hit hp hq hc hn hm8 k1 ⊢) <;> omega)), (by have := ti_lo cn; have := ti_hi cn; have := ti_lo tb; have := ti_hi tb; have := ti_lo te; have := ti_hi te; have := ti_lo tw; have := ti_hi tw; have := ti_lo tx; have := ti_hi tx; have t0 : Int32.toInt 0 = 0 := rfl; have t1 : Int32.toInt 1 = 1 := rfl; have t5000 : Int32.toInt 5000 = 5000 := rfl; (try simp only [true_or, or_true, true_and, and_true, z_tn, CellsOk, CallsOk, TextOk, MemOk, OutOk, Int32.lt_iff_toInt_lt, Int32.le_iff_toInt_le, ← Int32.toInt_inj, Int32.toInt_add, Int32.toInt_sub, Int32.toInt_mul, Int32.toInt_neg, zbm, zbm', t0, t1, t5000] at hic hit hp hq hc hn hm8 k1 ⊢) <;> omega)⟩⟩, ⟨by rw [ht]; exact zPs hP [4] rfl, va_K.moved hW.alike hK, hD.sub [4] rfl rfl⟩⟩, hS.F ht⟩) hS.2.2 d_Law_run_16
/-- the picture of ColonMachineLaw.push -/
def F_Law_push0 (dn : Int32) (df : Nat → Int32) (x2 : Int32) : Int32 := bd (F_Mach_push0 dn df x2) (fun q1 => 0)
theorem F_Law_push0_e (dn : Int32) (df : Nat → Int32) (x2 : Int32) : F_Law_push0 dn df x2 = bd (F_Mach_push0 dn df x2) (fun q1 => 0) := rfl
set_option maxHeartbeats 4000000 in
set_option maxRecDepth 100000 in
theorem c_Law_push0 (l : Launch) (D : va_G) (cI cJ cZ cW cT : ClassId) (sz : Nat) (hm : Nat) (dd : Nat) (rr : Nat) (kc : Nat) (mm : Nat) (oo : Nat) (tt : Nat) (ww : Nat) (kk : Nat) (pp : Nat) (da : Nat) (lc : Int32) (dn : Int32) (df : Nat → Int32) (x2 : Int32) (hid : CellsOk 64 dn) (hp : dn.toInt = 0) : Met l y_Law_push w_Law_push ({ frames := 2, cells := 0, slots := 0, locals := 42 }) (va_Pc [.ref hm, .int x2] (zP D classes (TY cI cJ cZ cW cT) [(hm, .inr (10, [.ref dd, .ref rr, .ref kc, .ref mm, .ref oo, .ref tt, .ref ww, .ref kk, .ref pp, .int lc])), (dd, .inr (1, [.ref da, .int dn])), (da, .inl (cI, 64, .inl df))] sz)) (va_Qi (fun (r : Int32) (_ : Unit) => r = F_Law_push0 dn df x2 ∧ ((r.toInt = 0))) (fun _ => zB D classes (TY cI cJ cZ cW cT) (va_A [(hm, .inr (10, [.ref dd, .ref rr, .ref kc, .ref mm, .ref oo, .ref tt, .ref ww, .ref kk, .ref pp, .int lc])), (dd, .inr (1, [.ref da, .int dn])), (da, .inl (cI, 64, .inl df))] sz) []) (va_A [(hm, .inr (10, [.ref dd, .ref rr, .ref kc, .ref mm, .ref oo, .ref tt, .ref ww, .ref kk, .ref pp, .int lc])), (dd, .inr (1, [.ref da, .int dn])), (da, .inl (cI, 64, .inl df))] sz)) 0 0 (va_A [(hm, .inr (10, [.ref dd, .ref rr, .ref kc, .ref mm, .ref oo, .ref tt, .ref ww, .ref kk, .ref pp, .int lc])), (dd, .inr (1, [.ref da, .int dn])), (da, .inl (cI, 64, .inl df))] sz) := by
  refine Met.ofWith (hs := [(0, 5, 8, 15)]) (cc := b_Law_push) (maxL := 3) (ret := (some .int)) (by decide) rfl ?_
  intro p e s m args below meth c s₁ B hml hta hv
  obtain ⟨rfl, hsz, hP, hK, hD0, hE⟩ := hv
  have hx := B.exec
  have hb := B.bytes
  have hr := B.returns
  have hts := atoms_spec (ws := w_Law_push) B.pre
  have hT : ∀ w ∈ TB, w.before _ s = true := fun w h => hts w (List.mem_cons_of_mem _ h)
  have hown : s.vm.findClass "ColonMachineLaw" = some m.cls := findClass_of_methodNamed B.named
  have hlocks := B.notSynchronized
  subst hsz
  have hD := hD0.self (sz := s.heap.size)
  generalize hAe : va_A [(hm, .inr (10, [.ref dd, .ref rr, .ref kc, .ref mm, .ref oo, .ref tt, .ref ww, .ref kk, .ref pp, .int lc])), (dd, .inr (1, [.ref da, .int dn])), (da, .inl (cI, 64, .inl df))] s.heap.size = A at hD hE ⊢
  have hA : ∀ q : Nat, s.heap.size ≤ q → A q := fun q h => by rw [← hAe]; exact Or.inr h
  have hS : va_S A s.heap s.heap [] := va_S.rf
  have hl := lv_entry [.ref hm, .int x2] (n := 3) (Nat.le_of_ble_eq_true rfl)
  rw [lg_entry_eq]
  generalize (lg_sl [.ref hm, .int x2] ++ List.replicate (3 - (lg_sl [.ref hm, .int x2]).length) Slot.unset).toArray = ls at hl ⊢
  have hl : lv_has ls 3 [(0, .ref hm), (1, .int x2)] := hl
  have hF := F_Law_push0_e dn df x2
  refine lv_aload_n hx hb d_Law_push_0 rfl (lv_at hl 0 rfl) ?_
  refine lv_iload_n hx hb d_Law_push_1 rfl (lv_at hl 1 rfl) ?_
  refine kN_sv (wr := []) (fun u : Int32 × (Nat → Int32) => [(hm, .inr (10, [.ref dd, .ref rr, .ref kc, .ref mm, .ref oo, .ref tt, .ref ww, .ref kk, .ref pp, .int lc])), (dd, .inr (1, [.ref da, .int u.1])), (da, .inl (cI, 64, .inl u.2))]) (zV (wc := [(hm, .inr (10, [.ref dd, .ref rr, .ref kc, .ref mm, .ref oo, .ref tt, .ref ww, .ref kk, .ref pp, .int lc])), (dd, .inr (1, [.ref da, .int dn])), (da, .inl (cI, 64, .inl df))]) (As := [.int x2]) (rest := []) (st0 := [.int x2, .ref hm]) ⟨hx, hb, hml, hown, hT⟩ (c_Mach_push0 l D cI cJ cZ cW cT s.heap.size hm dd rr kc mm oo tt ww kk pp da lc dn df x2 hid hp) (cwV 1 hT (tbV ml_Law_26 im_Mach_push se_Mach_push in_Mach co_Mach_push) rfl rfl rfl v_Mach_push ⟨Nat.le_of_ble_eq_true rfl, Nat.le_of_ble_eq_true rfl⟩) hK hE hP hD hS hA [0, 1, 2] rfl rfl 0 rfl rfl rfl hl.1 rfl (Nat.le_of_ble_eq_true rfl) d_Law_push_2 ⟨Nat.le_of_ble_eq_true rfl, Nat.le_of_ble_eq_true rfl⟩) hP hD hS hA [0, 1, 2] [] rfl rfl rfl (by decide) [0, 1, 2] rfl (fun u => rfl) (fun q1 H locs e1 k1 hP hD hS => ?_)
  have hP : va_P D classes [(hm, .inr (10, [.ref dd, .ref rr, .ref kc, .ref mm, .ref oo, .ref tt, .ref ww, .ref kk, .ref pp, .int lc])), (dd, .inr (1, [.ref da, .int q1.1])), (da, .inl (cI, 64, .inl q1.2))] H := hP
  have hD : va_D A [(hm, .inr (10, [.ref dd, .ref rr, .ref kc, .ref mm, .ref oo, .ref tt, .ref ww, .ref kk, .ref pp, .int lc])), (dd, .inr (1, [.ref da, .int q1.1])), (da, .inl (cI, 64, .inl q1.2))] := hD
  have hF := hF.trans (bd_e e1)
  refine lv_goto (tgt := 11) hx hb d_Law_push_5 (by decide) ?_
  refine lv_iconst (v := 0) hx hb d_Law_push_11 (by decide) ?_
  exact W.iret (v := 0) hx hb hr (fun t ht hW => ⟨⟨_, (), rfl, ⟨hF.symm, (by have := ti_lo dn; have := ti_hi dn; have := ti_lo x2; have := ti_hi x2; have t0 : Int32.toInt 0 = 0 := rfl; have t64 : Int32.toInt 64 = 64 := rfl; (try simp only [true_or, or_true, true_and, and_true, z_tn, CellsOk, CallsOk, TextOk, MemOk, OutOk, Int32.lt_iff_toInt_lt, Int32.le_iff_toInt_le, ← Int32.toInt_inj, Int32.toInt_add, Int32.toInt_sub, Int32.toInt_mul, Int32.toInt_neg, zbm, zbm', t0, t64] at hid hp k1 ⊢) <;> omega)⟩, ⟨by rw [ht]; exact zPs hP [] rfl, va_K.moved hW.alike hK, hD.sub [] rfl rfl⟩⟩, hS.F ht⟩) hS.2.2 d_Law_push_12
/-- the picture of ColonMachineLaw.peek -/
def F_Law_peek0 (he : Int32) (fc : Nat → Int32) (fo : Nat → Int64) (x2 : Int32) : Int32 × (Nat → Int64) := bd (F_Mach_peek0 he fc x2) (fun q1 => (0, vp_updL fo (0 : Int32).toNatClampNeg q1.toInt64))
theorem F_Law_peek0_e (he : Int32) (fc : Nat → Int32) (fo : Nat → Int64) (x2 : Int32) : F_Law_peek0 he fc fo x2 = bd (F_Mach_peek0 he fc x2) (fun q1 => (0, vp_updL fo (0 : Int32).toNatClampNeg q1.toInt64)) := rfl
set_option maxHeartbeats 4000000 in
set_option maxRecDepth 100000 in
theorem c_Law_peek0 (l : Launch) (D : va_G) (cI cJ cZ cW cT : ClassId) (sz : Nat) (hm : Nat) (dd : Nat) (rr : Nat) (kc : Nat) (mm : Nat) (oo : Nat) (tt : Nat) (ww : Nat) (kk : Nat) (pp : Nat) (ma : Nat) (mb : Nat) (ao : Nat) (lc : Int32) (he : Int32) (fc : Nat → Int32) (fb : Nat → Int32) (fo : Nat → Int64) (x2 : Int32) (him : MemOk he) (hp : he.toInt = 1) (hq : ∀ k : Nat, fb k = 0) (hn : x2.toInt = 0) : Met l y_Law_peek w_Law_peek ({ frames := 2, cells := 0, slots := 0, locals := 42 }) (va_Pc [.ref hm, .int x2, .ref ao] (zP D classes (TY cI cJ cZ cW cT) [(hm, .inr (10, [.ref dd, .ref rr, .ref kc, .ref mm, .ref oo, .ref tt, .ref ww, .ref kk, .ref pp, .int lc])), (mm, .inr (4, [.ref ma, .ref mb, .int he])), (ma, .inl (cI, 1000, .inl fc)), (mb, .inl (cI, 600, .inl fb)), (ao, .inl (cJ, 1, .inr (.inl fo)))] sz)) (va_Qi (fun (r : Int32) (u : (Nat → Int64)) => (r, u) = F_Law_peek0 he fc fo x2 ∧ (((u 0).toInt = (fc 0).toInt) ∧ (r.toInt = 0))) (fun u => zB D classes (TY cI cJ cZ cW cT) (va_A [(hm, .inr (10, [.ref dd, .ref rr, .ref kc, .ref mm, .ref oo, .ref tt, .ref ww, .ref kk, .ref pp, .int lc])), (mm, .inr (4, [.ref ma, .ref mb, .int he])), (ma, .inl (cI, 1000, .inl fc)), (mb, .inl (cI, 600, .inl fb)), (ao, .inl (cJ, 1, .inr (.inl fo)))] sz) [(ao, .inl (cJ, 1, .inr (.inl u)))]) (va_A [(hm, .inr (10, [.ref dd, .ref rr, .ref kc, .ref mm, .ref oo, .ref tt, .ref ww, .ref kk, .ref pp, .int lc])), (mm, .inr (4, [.ref ma, .ref mb, .int he])), (ma, .inl (cI, 1000, .inl fc)), (mb, .inl (cI, 600, .inl fb)), (ao, .inl (cJ, 1, .inr (.inl fo)))] sz)) 0 0 (va_A [(hm, .inr (10, [.ref dd, .ref rr, .ref kc, .ref mm, .ref oo, .ref tt, .ref ww, .ref kk, .ref pp, .int lc])), (mm, .inr (4, [.ref ma, .ref mb, .int he])), (ma, .inl (cI, 1000, .inl fc)), (mb, .inl (cI, 600, .inl fb)), (ao, .inl (cJ, 1, .inr (.inl fo)))] sz) := by
  refine Met.ofWith (hs := [(0, 9, 12, 24)]) (cc := b_Law_peek) (maxL := 4) (ret := (some .int)) (by decide) rfl ?_
  intro p e s m args below meth c s₁ B hml hta hv
  obtain ⟨rfl, hsz, hP, hK, hD0, hE⟩ := hv
  have hx := B.exec
  have hb := B.bytes
  have hr := B.returns
  have hts := atoms_spec (ws := w_Law_peek) B.pre
  have hT : ∀ w ∈ TB, w.before _ s = true := fun w h => hts w (List.mem_cons_of_mem _ h)
  have hown : s.vm.findClass "ColonMachineLaw" = some m.cls := findClass_of_methodNamed B.named
  have hlocks := B.notSynchronized
  subst hsz
  have hD := hD0.self (sz := s.heap.size)
  generalize hAe : va_A [(hm, .inr (10, [.ref dd, .ref rr, .ref kc, .ref mm, .ref oo, .ref tt, .ref ww, .ref kk, .ref pp, .int lc])), (mm, .inr (4, [.ref ma, .ref mb, .int he])), (ma, .inl (cI, 1000, .inl fc)), (mb, .inl (cI, 600, .inl fb)), (ao, .inl (cJ, 1, .inr (.inl fo)))] s.heap.size = A at hD hE ⊢
  have hA : ∀ q : Nat, s.heap.size ≤ q → A q := fun q h => by rw [← hAe]; exact Or.inr h
  have hS : va_S A s.heap s.heap [] := va_S.rf
  have hl := lv_entry [.ref hm, .int x2, .ref ao] (n := 4) (Nat.le_of_ble_eq_true rfl)
  rw [lg_entry_eq]
  generalize (lg_sl [.ref hm, .int x2, .ref ao] ++ List.replicate (4 - (lg_sl [.ref hm, .int x2, .ref ao]).length) Slot.unset).toArray = ls at hl ⊢
  have hl : lv_has ls 4 [(0, .ref hm), (1, .int x2), (2, .ref ao)] := hl
  have hF := F_Law_peek0_e he fc fo x2
  refine lv_aload_n hx hb d_Law_peek_0 rfl (lv_at hl 2 rfl) ?_
  refine lv_iconst (v := 0) hx hb d_Law_peek_1 (by decide) ?_
  refine lv_aload_n hx hb d_Law_peek_2 rfl (lv_at hl 0 rfl) ?_
  refine lv_iload_n hx hb d_Law_peek_3 rfl (lv_at hl 1 rfl) ?_
  refine kN_pi (wr := [(ao, .inl (cJ, 1, .inr (.inl fo)))]) (zV (wc := [(hm, .inr (10, [.ref dd, .ref rr, .ref kc, .ref mm, .ref oo, .ref tt, .ref ww, .ref kk, .ref pp, .int lc])), (mm, .inr (4, [.ref ma, .ref mb, .int he])), (ma, .inl (cI, 1000, .inl fc)), (mb, .inl (cI, 600, .inl fb))]) (As := [.int x2]) (rest := [.int 0, .ref ao]) (st0 := [.int x2, .ref hm, .int 0, .ref ao]) ⟨hx, hb, hml, hown, hT⟩ (c_Mach_peek0 l D cI cJ cZ cW cT s.heap.size hm dd rr kc mm oo tt ww kk pp ma mb lc he fc fb x2 him hp hq hn) (cwV 1 hT (tbV ml_Law_30 im_Mach_peek se_Mach_peek in_Mach co_Mach_peek) rfl rfl rfl v_Mach_peek ⟨Nat.le_of_ble_eq_true rfl, Nat.le_of_ble_eq_true rfl⟩) hK hE hP hD hS hA [0, 1, 2, 3] rfl rfl 0 rfl rfl rfl hl.1 rfl (Nat.le_of_ble_eq_true rfl) d_Law_peek_4 ⟨Nat.le_of_ble_eq_true rfl, Nat.le_of_ble_eq_true rfl⟩) hP hD hS hA [0, 1, 2, 3] [4] rfl rfl rfl (by decide) [1, 2, 3, 4, 0] rfl rfl (fun q1 H locs e1 k1 hP hD hS => ?_)
  have hP : va_P D classes [(hm, .inr (10, [.ref dd, .ref rr, .ref kc, .ref mm, .ref oo, .ref tt, .ref ww, .ref kk, .ref pp, .int lc])), (mm, .inr (4, [.ref ma, .ref mb, .int he])), (ma, .inl (cI, 1000, .inl fc)), (mb, .inl (cI, 600, .inl fb)), (ao, .inl (cJ, 1, .inr (.inl fo)))] H := hP
  have hD : va_D A [(hm, .inr (10, [.ref dd, .ref rr, .ref kc, .ref mm, .ref oo, .ref tt, .ref ww, .ref kk, .ref pp, .int lc])), (mm, .inr (4, [.ref ma, .ref mb, .int he])), (ma, .inl (cI, 1000, .inl fc)), (mb, .inl (cI, 600, .inl fb)), (ao, .inl (cJ, 1, .inr (.inl fo)))] := hD
  have hF := hF.trans (bd_e e1)
  refine lv_i2l (v := q1.toInt64) hx hb d_Law_peek_7 rfl ?_
  refine va_last hx hb hK hP hD hS 4 1 rfl rfl (by have := ti_lo he; have := ti_hi he; have := ti_lo x2; have := ti_hi x2; have := ti_lo q1; have := ti_hi q1; have t0 : Int32.toInt 0 = 0 := rfl; have t1 : Int32.toInt 1 = 1 := rfl; rw [vp_in_iff]; (try simp only [true_or, or_true, true_and, and_true, z_tn, CellsOk, CallsOk, TextOk, MemOk, OutOk, Int32.lt_iff_toInt_lt, Int32.le_iff_toInt_le, ← Int32.toInt_inj, Int32.toInt_add, Int32.toInt_sub, Int32.toInt_mul, Int32.toInt_neg, zbm, zbm', t0, t1] at him hp hq hn k1 ⊢) <;> omega) d_Law_peek_8 (fun H locs hP hD hS => ?_)
  have hP : va_P D classes [(hm, .inr (10, [.ref dd, .ref rr, .ref kc, .ref mm, .ref oo, .ref tt, .ref ww, .ref kk, .ref pp, .int lc])), (mm, .inr (4, [.ref ma, .ref mb, .int he])), (ma, .inl (cI, 1000, .inl fc)), (mb, .inl (cI, 600, .inl fb)), (ao, .inl (cJ, 1, .inr (.inl (vp_updL fo (0 : Int32).toNatClampNeg q1.toInt64))))] H := hP
  have hD : va_D A [(hm, .inr (10, [.ref dd, .ref rr, .ref kc, .ref mm, .ref oo, .ref tt, .ref ww, .ref kk, .ref pp, .int lc])), (mm, .inr (4, [.ref ma, .ref mb, .int he])), (ma, .inl (cI, 1000, .inl fc)), (mb, .inl (cI, 600, .inl fb)), (ao, .inl (cJ, 1, .inr (.inl (vp_updL fo (0 : Int32).toNatClampNeg q1.toInt64))))] := hD
  refine lv_goto (tgt := 15) hx hb d_Law_peek_9 (by decide) ?_
  refine lv_iconst (v := 0) hx hb d_Law_peek_15 (by decide) ?_
  exact W.iret (v := 0) hx hb hr (fun t ht hW => ⟨⟨_, _, rfl, ⟨hF.symm, ⟨(z_o0 (by have := ti_lo he; have := ti_hi he; have := ti_lo x2; have := ti_hi x2; have := ti_lo q1; have := ti_hi q1; have t0 : Int32.toInt 0 = 0 := rfl; have t1 : Int32.toInt 1 = 1 := rfl; (try simp only [true_or, or_true, true_and, and_true, z_tn, CellsOk, CallsOk, TextOk, MemOk, OutOk, Int32.lt_iff_toInt_lt, Int32.le_iff_toInt_le, ← Int32.toInt_inj, Int32.toInt_add, Int32.toInt_sub, Int32.toInt_mul, Int32.toInt_neg, zbm, zbm', t0, t1] at him hp hq hn k1 ⊢) <;> omega)), (by have := ti_lo he; have := ti_hi he; have := ti_lo x2; have := ti_hi x2; have := ti_lo q1; have := ti_hi q1; have t0 : Int32.toInt 0 = 0 := rfl; have t1 : Int32.toInt 1 = 1 := rfl; (try simp only [true_or, or_true, true_and, and_true, z_tn, CellsOk, CallsOk, TextOk, MemOk, OutOk, Int32.lt_iff_toInt_lt, Int32.le_iff_toInt_le, ← Int32.toInt_inj, Int32.toInt_add, Int32.toInt_sub, Int32.toInt_mul, Int32.toInt_neg, zbm, zbm', t0, t1] at him hp hq hn k1 ⊢) <;> omega)⟩⟩, ⟨by rw [ht]; exact zPs hP [4] rfl, va_K.moved hW.alike hK, hD.sub [4] rfl rfl⟩⟩, hS.F ht⟩) hS.2.2 d_Law_peek_16
/-- the picture of ColonMachineLaw.feed -/
def F_Law_feedT  : Int32 := 1
theorem F_Law_feedT_e  : F_Law_feedT = 1 := rfl
set_option maxHeartbeats 4000000 in
set_option maxRecDepth 100000 in
theorem c_Law_feedT (l : Launch) (htl : ∀ e : Env, l.admits e → e.platform.stackTraces = false) (D : va_G) (cI cJ cZ cW cT : ClassId) (sz : Nat) (hm : Nat) (dd : Nat) (rr : Nat) (kc : Nat) (mm : Nat) (oo : Nat) (tt : Nat) (ww : Nat) (kk : Nat) (pp : Nat) (ao : Nat) (lc : Int32) (x2 : Int64) (x3 : Int32) (hn : x3.toInt < 1 ∨ 8 < x3.toInt) : Met l y_Law_feed w_Law_feed ({ frames := 7, cells := 1, slots := 6, locals := 113 }) (va_Pc [.ref hm, .long x2, .int x3, .ref ao] (zP D classes (TY cI cJ cZ cW cT) [(hm, .inr (10, [.ref dd, .ref rr, .ref kc, .ref mm, .ref oo, .ref tt, .ref ww, .ref kk, .ref pp, .int lc]))] sz)) (va_Qi (fun (r : Int32) (_ : Unit) => r = F_Law_feedT ∧ ((r.toInt = 1))) (fun _ => zB D classes (TY cI cJ cZ cW cT) (va_A [(hm, .inr (10, [.ref dd, .ref rr, .ref kc, .ref mm, .ref oo, .ref tt, .ref ww, .ref kk, .ref pp, .int lc]))] sz) []) (va_A [(hm, .inr (10, [.ref dd, .ref rr, .ref kc, .ref mm, .ref oo, .ref tt, .ref ww, .ref kk, .ref pp, .int lc]))] sz)) 1 6 (va_A [(hm, .inr (10, [.ref dd, .ref rr, .ref kc, .ref mm, .ref oo, .ref tt, .ref ww, .ref kk, .ref pp, .int lc]))] sz) := by
  refine Met.ofWith (hs := [(0, 11, 14, 13), (0, 11, 18, 15)]) (cc := b_Law_feed) (maxL := 6) (ret := (some .int)) (by decide) rfl ?_
  intro p e s m args below meth c s₁ B hml hta hv
  obtain ⟨rfl, hsz, hP, hK, hD0, hE⟩ := hv
  have hx := B.exec
  have hb := B.bytes
  have hr := B.returns
  have hts := atoms_spec (ws := w_Law_feed) B.pre
  have hT : ∀ w ∈ TB, w.before _ s = true := fun w h => hts w (List.mem_cons_of_mem _ h)
  have hown : s.vm.findClass "ColonMachineLaw" = some m.cls := findClass_of_methodNamed B.named
  have hlocks := B.notSynchronized
  subst hsz
  have hD := hD0.self (sz := s.heap.size)
  generalize hAe : va_A [(hm, .inr (10, [.ref dd, .ref rr, .ref kc, .ref mm, .ref oo, .ref tt, .ref ww, .ref kk, .ref pp, .int lc]))] s.heap.size = A at hD hE ⊢
  have hA : ∀ q : Nat, s.heap.size ≤ q → A q := fun q h => by rw [← hAe]; exact Or.inr h
  have hS : va_S A s.heap s.heap [] := va_S.rf
  have hl := lv_entry [.ref hm, .long x2, .int x3, .ref ao] (n := 6) (Nat.le_of_ble_eq_true rfl)
  rw [lg_entry_eq]
  generalize (lg_sl [.ref hm, .long x2, .int x3, .ref ao] ++ List.replicate (6 - (lg_sl [.ref hm, .long x2, .int x3, .ref ao]).length) Slot.unset).toArray = ls at hl ⊢
  have hl : lv_has ls 6 [(0, .ref hm), (1, .long x2), (3, .int x3), (4, .ref ao)] := hl
  have hF := F_Law_feedT_e 
  refine lv_aload hx hb d_Law_feed_0 (lv_at hl 3 rfl) ?_
  refine lv_iconst (v := 0) hx hb d_Law_feed_2 (by decide) ?_
  refine lv_aload_n hx hb d_Law_feed_3 rfl (lv_at hl 0 rfl) ?_
  refine lv_lload_n hx hb d_Law_feed_4 rfl (lv_at hl 1 rfl) ?_
  refine lv_iload_n hx hb d_Law_feed_5 rfl (lv_at hl 2 rfl) ?_
  refine zTV (wc := [(hm, .inr (10, [.ref dd, .ref rr, .ref kc, .ref mm, .ref oo, .ref tt, .ref ww, .ref kk, .ref pp, .int lc]))]) (wr := []) (As := [.long x2, .int x3]) (rest := [.int 0, .ref ao]) (st0 := [.int x3, .long x2, .ref hm, .int 0, .ref ao]) (x := ⟨0, 11, 14, 13⟩) ⟨hx, hb, hml, hown, hT⟩ (c_Mach_feedT l htl D cI cJ cZ cW cT s.heap.size hm dd rr kc mm oo tt ww kk pp lc x2 x3 hn) (cwV 2 hT (tbV ml_Law_7 im_Mach_feed se_Mach_feed in_Mach co_Mach_feed) rfl rfl rfl v_Mach_feed ⟨Nat.le_of_ble_eq_true rfl, Nat.le_of_ble_eq_true rfl⟩) hK hE hP hD hS hA [0] [] rfl rfl rfl rfl (by decide) 0 rfl rfl rfl hl.1 rfl (Nat.le_of_ble_eq_true rfl) d_Law_feed_6 ⟨(by first | exact Nat.le_refl _ | exact Nat.le_of_ble_eq_true rfl), (by first | exact Nat.le_refl _ | exact Nat.le_of_ble_eq_true rfl)⟩ hta (by decide) (by decide) (hT _ kl_Law_13) hE.1.2.2.2.2.2.2.1 (fun o1 H locs hP hD hS => ?_)
  have hP : va_P D classes [] H := hP
  have hD : va_D A [] := hD
  refine lv_astore (lv' := [(5, .ref o1), (0, .ref hm), (1, .long x2), (3, .int x3), (4, .ref ao)]) hx hb d_Law_feed_14 hl (by decide) rfl (fun ls hl => ?_)
  refine lv_iconst (v := 1) hx hb d_Law_feed_16 (by decide) ?_
  exact W.iret (v := 1) hx hb hr (fun t ht hW => ⟨⟨_, (), rfl, ⟨hF.symm, (by have t1 : Int32.toInt 1 = 1 := rfl; have t8 : Int32.toInt 8 = 8 := rfl; (try simp only [true_or, or_true, true_and, and_true, z_tn, CellsOk, CallsOk, TextOk, MemOk, OutOk, Int32.lt_iff_toInt_lt, Int32.le_iff_toInt_le, ← Int32.toInt_inj, Int32.toInt_add, Int32.toInt_sub, Int32.toInt_mul, Int32.toInt_neg, zbm, zbm', t1, t8] at hn ⊢) <;> omega)⟩, ⟨by rw [ht]; exact zPs hP [] rfl, va_K.moved hW.alike hK, hD.sub [] rfl rfl⟩⟩, hS.F ht⟩) hS.2.2 d_Law_feed_17
/-- the picture of ColonMachineLaw.run -/
def F_Law_runT  : Int32 := 1
theorem F_Law_runT_e  : F_Law_runT = 1 := rfl
set_option maxHeartbeats 4000000 in
set_option maxRecDepth 100000 in
theorem c_Law_runT (l : Launch) (htl : ∀ e : Env, l.admits e → e.platform.stackTraces = false) (D : va_G) (cI cJ cZ cW cT : ClassId) (sz : Nat) (hm : Nat) (dd : Nat) (rr : Nat) (kc : Nat) (mm : Nat) (oo : Nat) (tt : Nat) (ww : Nat) (kk : Nat) (pp : Nat) (ao : Nat) (lc : Int32) (x2 : Int32) (hn : x2.toInt < 1 ∨ 5000 < x2.toInt) : Met l y_Law_run w_Law_run ({ frames := 7, cells := 1, slots := 6, locals := 113 }) (va_Pc [.ref hm, .int x2, .ref ao] (zP D classes (TY cI cJ cZ cW cT) [(hm, .inr (10, [.ref dd, .ref rr, .ref kc, .ref mm, .ref oo, .ref tt, .ref ww, .ref kk, .ref pp, .int lc]))] sz)) (va_Qi (fun (r : Int32) (_ : Unit) => r = F_Law_runT ∧ ((r.toInt = 1))) (fun _ => zB D classes (TY cI cJ cZ cW cT) (va_A [(hm, .inr (10, [.ref dd, .ref rr, .ref kc, .ref mm, .ref oo, .ref tt, .ref ww, .ref kk, .ref pp, .int lc]))] sz) []) (va_A [(hm, .inr (10, [.ref dd, .ref rr, .ref kc, .ref mm, .ref oo, .ref tt, .ref ww, .ref kk, .ref pp, .int lc]))] sz)) 1 6 (va_A [(hm, .inr (10, [.ref dd, .ref rr, .ref kc, .ref mm, .ref oo, .ref tt, .ref ww, .ref kk, .ref pp, .int lc]))] sz) := by
  refine Met.ofWith (hs := [(0, 9, 12, 13)]) (cc := b_Law_run) (maxL := 4) (ret := (some .int)) (by decide) rfl ?_
  intro p e s m args below meth c s₁ B hml hta hv
  obtain ⟨rfl, hsz, hP, hK, hD0, hE⟩ := hv
  have hx := B.exec
  have hb := B.bytes
  have hr := B.returns
  have hts := atoms_spec (ws := w_Law_run) B.pre
  have hT : ∀ w ∈ TB, w.before _ s = true := fun w h => hts w (List.mem_cons_of_mem _ h)
  have hown : s.vm.findClass "ColonMachineLaw" = some m.cls := findClass_of_methodNamed B.named
  have hlocks := B.notSynchronized
  subst hsz
  have hD := hD0.self (sz := s.heap.size)
  generalize hAe : va_A [(hm, .inr (10, [.ref dd, .ref rr, .ref kc, .ref mm, .ref oo, .ref tt, .ref ww, .ref kk, .ref pp, .int lc]))] s.heap.size = A at hD hE ⊢
  have hA : ∀ q : Nat, s.heap.size ≤ q → A q := fun q h => by rw [← hAe]; exact Or.inr h
  have hS : va_S A s.heap s.heap [] := va_S.rf
  have hl := lv_entry [.ref hm, .int x2, .ref ao] (n := 4) (Nat.le_of_ble_eq_true rfl)
  rw [lg_entry_eq]
  generalize (lg_sl [.ref hm, .int x2, .ref ao] ++ List.replicate (4 - (lg_sl [.ref hm, .int x2, .ref ao]).length) Slot.unset).toArray = ls at hl ⊢
  have hl : lv_has ls 4 [(0, .ref hm), (1, .int x2), (2, .ref ao)] := hl
  have hF := F_Law_runT_e 
  refine lv_aload_n hx hb d_Law_run_0 rfl (lv_at hl 2 rfl) ?_
  refine lv_iconst (v := 0) hx hb d_Law_run_1 (by decide) ?_
  refine lv_aload_n hx hb d_Law_run_2 rfl (lv_at hl 0 rfl) ?_
  refine lv_iload_n hx hb d_Law_run_3 rfl (lv_at hl 1 rfl) ?_
  refine zTV (wc := [(hm, .inr (10, [.ref dd, .ref rr, .ref kc, .ref mm, .ref oo, .ref tt, .ref ww, .ref kk, .ref pp, .int lc]))]) (wr := []) (As := [.int x2]) (rest := [.int 0, .ref ao]) (st0 := [.int x2, .ref hm, .int 0, .ref ao]) (x := ⟨0, 9, 12, 13⟩) ⟨hx, hb, hml, hown, hT⟩ (c_Mach_runT l htl D cI cJ cZ cW cT s.heap.size hm dd rr kc mm oo tt ww kk pp lc x2 hn) (cwV 1 hT (tbV ml_Law_17 im_Mach_run se_Mach_run in_Mach co_Mach_run) rfl rfl rfl v_Mach_run ⟨Nat.le_of_ble_eq_true rfl, Nat.le_of_ble_eq_true rfl⟩) hK hE hP hD hS hA [0] [] rfl rfl rfl rfl (by decide) 0 rfl rfl rfl hl.1 rfl (Nat.le_of_ble_eq_true rfl) d_Law_run_4 ⟨(by first | exact Nat.le_refl _ | exact Nat.le_of_ble_eq_true rfl), (by first | exact Nat.le_refl _ | exact Nat.le_of_ble_eq_true rfl)⟩ hta (by decide) (by decide) (hT _ kl_Law_13) hE.1.2.2.2.2.2.2.1 (fun o1 H locs hP hD hS => ?_)
  have hP : va_P D classes [] H := hP
  have hD : va_D A [] := hD
  refine lv_astore_n (lv' := [(3, .ref o1), (0, .ref hm), (1, .int x2), (2, .ref ao)]) hx hb d_Law_run_12 rfl hl (by decide) rfl (fun ls hl => ?_)
  refine lv_iconst (v := 1) hx hb d_Law_run_13 (by decide) ?_
  exact W.iret (v := 1) hx hb hr (fun t ht hW => ⟨⟨_, (), rfl, ⟨hF.symm, (by have t1 : Int32.toInt 1 = 1 := rfl; have t5000 : Int32.toInt 5000 = 5000 := rfl; (try simp only [true_or, or_true, true_and, and_true, z_tn, CellsOk, CallsOk, TextOk, MemOk, OutOk, Int32.lt_iff_toInt_lt, Int32.le_iff_toInt_le, ← Int32.toInt_inj, Int32.toInt_add, Int32.toInt_sub, Int32.toInt_mul, Int32.toInt_neg, zbm, zbm', t1, t5000] at hn ⊢) <;> omega)⟩, ⟨by rw [ht]; exact zPs hP [] rfl, va_K.moved hW.alike hK, hD.sub [] rfl rfl⟩⟩, hS.F ht⟩) hS.2.2 d_Law_run_14
/-- the picture of ColonMachineLaw.pick -/
def F_Law_pickT  : Int32 := 1
theorem F_Law_pickT_e  : F_Law_pickT = 1 := rfl
set_option maxHeartbeats 4000000 in
set_option maxRecDepth 100000 in
theorem c_Law_pickT (l : Launch) (htl : ∀ e : Env, l.admits e → e.platform.stackTraces = false) (D : va_G) (cI cJ cZ cW cT : ClassId) (sz : Nat) (hm : Nat) (dd : Nat) (rr : Nat) (kc : Nat) (mm : Nat) (oo : Nat) (tt : Nat) (ww : Nat) (kk : Nat) (pp : Nat) (da : Nat) (ao : Nat) (lc : Int32) (dn : Int32) (x2 : Int32) (hid : CellsOk 64 dn) (hp : dn.toInt = 0) : Met l y_Law_pick w_Law_pick ({ frames := 7, cells := 1, slots := 6, locals := 111 }) (va_Pc [.ref hm, .int x2, .ref ao] (zP D classes (TY cI cJ cZ cW cT) [(hm, .inr (10, [.ref dd, .ref rr, .ref kc, .ref mm, .ref oo, .ref tt, .ref ww, .ref kk, .ref pp, .int lc])), (dd, .inr (1, [.ref da, .int dn]))] sz)) (va_Qi (fun (r : Int32) (_ : Unit) => r = F_Law_pickT ∧ ((r.toInt = 1))) (fun _ => zB D classes (TY cI cJ cZ cW cT) (va_A [(hm, .inr (10, [.ref dd, .ref rr, .ref kc, .ref mm, .ref oo, .ref tt, .ref ww, .ref kk, .ref pp, .int lc])), (dd, .inr (1, [.ref da, .int dn]))] sz) []) (va_A [(hm, .inr (10, [.ref dd, .ref rr, .ref kc, .ref mm, .ref oo, .ref tt, .ref ww, .ref kk, .ref pp, .int lc])), (dd, .inr (1, [.ref da, .int dn]))] sz)) 1 6 (va_A [(hm, .inr (10, [.ref dd, .ref rr, .ref kc, .ref mm, .ref oo, .ref tt, .ref ww, .ref kk, .ref pp, .int lc])), (dd, .inr (1, [.ref da, .int dn]))] sz) := by
  refine Met.ofWith (hs := [(0, 9, 12, 24)]) (cc := b_Law_pick) (maxL := 4) (ret := (some .int)) (by decide) rfl ?_
  intro p e s m args below meth c s₁ B hml hta hv
  obtain ⟨rfl, hsz, hP, hK, hD0, hE⟩ := hv
  have hx := B.exec
  have hb := B.bytes
  have hr := B.returns
  have hts := atoms_spec (ws := w_Law_pick) B.pre
  have hT : ∀ w ∈ TB, w.before _ s = true := fun w h => hts w (List.mem_cons_of_mem _ h)
  have hown : s.vm.findClass "ColonMachineLaw" = some m.cls := findClass_of_methodNamed B.named
  have hlocks := B.notSynchronized
  subst hsz
  have hD := hD0.self (sz := s.heap.size)
  generalize hAe : va_A [(hm, .inr (10, [.ref dd, .ref rr, .ref kc, .ref mm, .ref oo, .ref tt, .ref ww, .ref kk, .ref pp, .int lc])), (dd, .inr (1, [.ref da, .int dn]))] s.heap.size = A at hD hE ⊢
  have hA : ∀ q : Nat, s.heap.size ≤ q → A q := fun q h => by rw [← hAe]; exact Or.inr h
  have hS : va_S A s.heap s.heap [] := va_S.rf
  have hl := lv_entry [.ref hm, .int x2, .ref ao] (n := 4) (Nat.le_of_ble_eq_true rfl)
  rw [lg_entry_eq]
  generalize (lg_sl [.ref hm, .int x2, .ref ao] ++ List.replicate (4 - (lg_sl [.ref hm, .int x2, .ref ao]).length) Slot.unset).toArray = ls at hl ⊢
  have hl : lv_has ls 4 [(0, .ref hm), (1, .int x2), (2, .ref ao)] := hl
  have hF := F_Law_pickT_e 
  refine lv_aload_n hx hb d_Law_pick_0 rfl (lv_at hl 2 rfl) ?_
  refine lv_iconst (v := 0) hx hb d_Law_pick_1 (by decide) ?_
  refine lv_aload_n hx hb d_Law_pick_2 rfl (lv_at hl 0 rfl) ?_
  refine lv_iload_n hx hb d_Law_pick_3 rfl (lv_at hl 1 rfl) ?_
  refine zTV (wc := [(hm, .inr (10, [.ref dd, .ref rr, .ref kc, .ref mm, .ref oo, .ref tt, .ref ww, .ref kk, .ref pp, .int lc])), (dd, .inr (1, [.ref da, .int dn]))]) (wr := []) (As := [.int x2]) (rest := [.int 0, .ref ao]) (st0 := [.int x2, .ref hm, .int 0, .ref ao]) (x := ⟨0, 9, 12, 24⟩) ⟨hx, hb, hml, hown, hT⟩ (c_Mach_pickT l htl D cI cJ cZ cW cT s.heap.size hm dd rr kc mm oo tt ww kk pp da lc dn x2 hid hp) (cwV 1 hT (tbV ml_Law_21 im_Mach_pick se_Mach_pick in_Mach co_Mach_pick) rfl rfl rfl v_Mach_pick ⟨Nat.le_of_ble_eq_true rfl, Nat.le_of_ble_eq_true rfl⟩) hK hE hP hD hS hA [0, 1] [] rfl rfl rfl rfl (by decide) 0 rfl rfl rfl hl.1 rfl (Nat.le_of_ble_eq_true rfl) d_Law_pick_4 ⟨(by first | exact Nat.le_refl _ | exact Nat.le_of_ble_eq_true rfl), (by first | exact Nat.le_refl _ | exact Nat.le_of_ble_eq_true rfl)⟩ hta (by decide) (by decide) (hT _ kl_Law_24) hE.1.2.2.2.2.2.2.2.1 (fun o1 H locs hP hD hS => ?_)
  have hP : va_P D classes [] H := hP
  have hD : va_D A [] := hD
  refine lv_astore_n (lv' := [(3, .ref o1), (0, .ref hm), (1, .int x2), (2, .ref ao)]) hx hb d_Law_pick_12 rfl hl (by decide) rfl (fun ls hl => ?_)
  refine lv_iconst (v := 1) hx hb d_Law_pick_13 (by decide) ?_
  exact W.iret (v := 1) hx hb hr (fun t ht hW => ⟨⟨_, (), rfl, ⟨hF.symm, (by have := ti_lo dn; have := ti_hi dn; have t1 : Int32.toInt 1 = 1 := rfl; have t64 : Int32.toInt 64 = 64 := rfl; have t0 : Int32.toInt 0 = 0 := rfl; (try simp only [true_or, or_true, true_and, and_true, z_tn, CellsOk, CallsOk, TextOk, MemOk, OutOk, Int32.lt_iff_toInt_lt, Int32.le_iff_toInt_le, ← Int32.toInt_inj, Int32.toInt_add, Int32.toInt_sub, Int32.toInt_mul, Int32.toInt_neg, zbm, zbm', t1, t64, t0] at hid hp ⊢) <;> omega)⟩, ⟨by rw [ht]; exact zPs hP [] rfl, va_K.moved hW.alike hK, hD.sub [] rfl rfl⟩⟩, hS.F ht⟩) hS.2.2 d_Law_pick_14
/-- the picture of ColonMachineLaw.peek -/
def F_Law_peekT  : Int32 := 1
theorem F_Law_peekT_e  : F_Law_peekT = 1 := rfl
set_option maxHeartbeats 4000000 in
set_option maxRecDepth 100000 in
theorem c_Law_peekT (l : Launch) (htl : ∀ e : Env, l.admits e → e.platform.stackTraces = false) (D : va_G) (cI cJ cZ cW cT : ClassId) (sz : Nat) (hm : Nat) (dd : Nat) (rr : Nat) (kc : Nat) (mm : Nat) (oo : Nat) (tt : Nat) (ww : Nat) (kk : Nat) (pp : Nat) (ma : Nat) (mb : Nat) (ao : Nat) (lc : Int32) (he : Int32) (fb : Nat → Int32) (x2 : Int32) (him : MemOk he) (hp : he.toInt = 1) (hq : ∀ k : Nat, fb k = 0) (hn : ¬ x2.toInt = 0) : Met l y_Law_peek w_Law_peek ({ frames := 7, cells := 1, slots := 6, locals := 111 }) (va_Pc [.ref hm, .int x2, .ref ao] (zP D classes (TY cI cJ cZ cW cT) [(hm, .inr (10, [.ref dd, .ref rr, .ref kc, .ref mm, .ref oo, .ref tt, .ref ww, .ref kk, .ref pp, .int lc])), (mm, .inr (4, [.ref ma, .ref mb, .int he])), (mb, .inl (cI, 600, .inl fb))] sz)) (va_Qi (fun (r : Int32) (_ : Unit) => r = F_Law_peekT ∧ ((r.toInt = 1))) (fun _ => zB D classes (TY cI cJ cZ cW cT) (va_A [(hm, .inr (10, [.ref dd, .ref rr, .ref kc, .ref mm, .ref oo, .ref tt, .ref ww, .ref kk, .ref pp, .int lc])), (mm, .inr (4, [.ref ma, .ref mb, .int he])), (mb, .inl (cI, 600, .inl fb))] sz) []) (va_A [(hm, .inr (10, [.ref dd, .ref rr, .ref kc, .ref mm, .ref oo, .ref tt, .ref ww, .ref kk, .ref pp, .int lc])), (mm, .inr (4, [.ref ma, .ref mb, .int he])), (mb, .inl (cI, 600, .inl fb))] sz)) 1 6 (va_A [(hm, .inr (10, [.ref dd, .ref rr, .ref kc, .ref mm, .ref oo, .ref tt, .ref ww, .ref kk, .ref pp, .int lc])), (mm, .inr (4, [.ref ma, .ref mb, .int he])), (mb, .inl (cI, 600, .inl fb))] sz) := by
  refine Met.ofWith (hs := [(0, 9, 12, 24)]) (cc := b_Law_peek) (maxL := 4) (ret := (some .int)) (by decide) rfl ?_
  intro p e s m args below meth c s₁ B hml hta hv
  obtain ⟨rfl, hsz, hP, hK, hD0, hE⟩ := hv
  have hx := B.exec
  have hb := B.bytes
  have hr := B.returns
  have hts := atoms_spec (ws := w_Law_peek) B.pre
  have hT : ∀ w ∈ TB, w.before _ s = true := fun w h => hts w (List.mem_cons_of_mem _ h)
  have hown : s.vm.findClass "ColonMachineLaw" = some m.cls := findClass_of_methodNamed B.named
  have hlocks := B.notSynchronized
  subst hsz
  have hD := hD0.self (sz := s.heap.size)
  generalize hAe : va_A [(hm, .inr (10, [.ref dd, .ref rr, .ref kc, .ref mm, .ref oo, .ref tt, .ref ww, .ref kk, .ref pp, .int lc])), (mm, .inr (4, [.ref ma, .ref mb, .int he])), (mb, .inl (cI, 600, .inl fb))] s.heap.size = A at hD hE ⊢
  have hA : ∀ q : Nat, s.heap.size ≤ q → A q := fun q h => by rw [← hAe]; exact Or.inr h
  have hS : va_S A s.heap s.heap [] := va_S.rf
  have hl := lv_entry [.ref hm, .int x2, .ref ao] (n := 4) (Nat.le_of_ble_eq_true rfl)
  rw [lg_entry_eq]
  generalize (lg_sl [.ref hm, .int x2, .ref ao] ++ List.replicate (4 - (lg_sl [.ref hm, .int x2, .ref ao]).length) Slot.unset).toArray = ls at hl ⊢
  have hl : lv_has ls 4 [(0, .ref hm), (1, .int x2), (2, .ref ao)] := hl
  have hF := F_Law_peekT_e 
  refine lv_aload_n hx hb d_Law_peek_0 rfl (lv_at hl 2 rfl) ?_
  refine lv_iconst (v := 0) hx hb d_Law_peek_1 (by decide) ?_
  refine lv_aload_n hx hb d_Law_peek_2 rfl (lv_at hl 0 rfl) ?_
  refine lv_iload_n hx hb d_Law_peek_3 rfl (lv_at hl 1 rfl) ?_
  refine zTV (wc := [(hm, .inr (10, [.ref dd, .ref rr, .ref kc, .ref mm, .ref oo, .ref tt, .ref ww, .ref kk, .ref pp, .int lc])), (mm, .inr (4, [.ref ma, .ref mb, .int he])), (mb, .inl (cI, 600, .inl fb))]) (wr := []) (As := [.int x2]) (rest := [.int 0, .ref ao]) (st0 := [.int x2, .ref hm, .int 0, .ref ao]) (x := ⟨0, 9, 12, 24⟩) ⟨hx, hb, hml, hown, hT⟩ (c_Mach_peekT l htl D cI cJ cZ cW cT s.heap.size hm dd rr kc mm oo tt ww kk pp ma mb lc he fb x2 him hp hq hn) (cwV 1 hT (tbV ml_Law_30 im_Mach_peek se_Mach_peek in_Mach co_Mach_peek) rfl rfl rfl v_Mach_peek ⟨Nat.le_of_ble_eq_true rfl, Nat.le_of_ble_eq_true rfl⟩) hK hE hP hD hS hA [0, 1, 2] [] rfl rfl rfl rfl (by decide) 0 rfl rfl rfl hl.1 rfl (Nat.le_of_ble_eq_true rfl) d_Law_peek_4 ⟨(by first | exact Nat.le_refl _ | exact Nat.le_of_ble_eq_true rfl), (by first | exact Nat.le_refl _ | exact Nat.le_of_ble_eq_true rfl)⟩ hta (by decide) (by decide) (hT _ kl_Law_24) hE.1.2.2.2.2.2.2.2.1 (fun o1 H locs hP hD hS => ?_)
  have hP : va_P D classes [] H := hP
  have hD : va_D A [] := hD
  refine lv_astore_n (lv' := [(3, .ref o1), (0, .ref hm), (1, .int x2), (2, .ref ao)]) hx hb d_Law_peek_12 rfl hl (by decide) rfl (fun ls hl => ?_)
  refine lv_iconst (v := 1) hx hb d_Law_peek_13 (by decide) ?_
  exact W.iret (v := 1) hx hb hr (fun t ht hW => ⟨⟨_, (), rfl, ⟨hF.symm, (by have := ti_lo he; have := ti_hi he; have t1 : Int32.toInt 1 = 1 := rfl; have t0 : Int32.toInt 0 = 0 := rfl; (try simp only [true_or, or_true, true_and, and_true, z_tn, CellsOk, CallsOk, TextOk, MemOk, OutOk, Int32.lt_iff_toInt_lt, Int32.le_iff_toInt_le, ← Int32.toInt_inj, Int32.toInt_add, Int32.toInt_sub, Int32.toInt_mul, Int32.toInt_neg, zbm, zbm', t1, t0] at him hp hq hn ⊢) <;> omega)⟩, ⟨by rw [ht]; exact zPs hP [] rfl, va_K.moved hW.alike hK, hD.sub [] rfl rfl⟩⟩, hS.F ht⟩) hS.2.2 d_Law_peek_14
