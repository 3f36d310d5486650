theorem co_Primitives_isToken : (Jvm.Cond.code ({ cls := "ColonMachine$Primitives", name := "isToken", desc := "(I)Z" } : Jvm.MethodName) prog_8_method_2_code (1 : Nat) (Option.some Jvm.ClassFile.FieldType.boolean)) ∈ TB := tbI5 _ (List.mem_of_getElem? (i := 63) rfl) rfl
theorem co_Primitives_isForBodies : (Jvm.Cond.code ({ cls := "ColonMachine$Primitives", name := "isForBodies", desc := "(I)Z" } : Jvm.MethodName) prog_8_method_5_code (1 : Nat) (Option.some Jvm.ClassFile.FieldType.boolean)) ∈ TB := tbI5 _ (List.mem_of_getElem? (i := 87) rfl) rfl
theorem co_Primitives_ownReturnsNeeded : (Jvm.Cond.code ({ cls := "ColonMachine$Primitives", name := "ownReturnsNeeded", desc := "(I)I" } : Jvm.MethodName) prog_8_method_6_code (1 : Nat) (Option.some Jvm.ClassFile.FieldType.int)) ∈ TB := tbI5 _ (List.mem_of_getElem? (i := 102) rfl) rfl
theorem co_Primitives_put : (Jvm.Cond.code ({ cls := "ColonMachine$Primitives", name := "put", desc := "(I)I" } : Jvm.MethodName) prog_8_method_8_code (2 : Nat) (Option.some Jvm.ClassFile.FieldType.int)) ∈ TB := tbI5 _ (List.mem_of_getElem? (i := 114) rfl) rfl
theorem fl_Primitives_9 : (Jvm.Cond.fieldLink "ColonMachine$Primitives" (9 : Nat) "ColonMachine$Primitives" "data" "LColonMachine$Cells;") ∈ TB := tbI1 _ (List.mem_of_getElem? (i := 188) rfl) rfl
theorem ml_Primitives_146 : (Jvm.Cond.methodLink "ColonMachine$Primitives" (146 : Nat) ({ cls := "ColonMachine$Cells", name := "put", desc := "(I)V" } : Jvm.MethodName)) ∈ TB := tbI5 _ (List.mem_of_getElem? (i := 115) rfl) rfl
theorem im_Cells_put : (Jvm.Cond.instanceMethod ({ cls := "ColonMachine$Cells", name := "put", desc := "(I)V" } : Jvm.MethodName)) ∈ TB := tbI4 _ (List.mem_of_getElem? (i := 229) rfl) rfl
theorem se_Cells_put : (Jvm.Cond.selects "ColonMachine$Cells" ({ cls := "ColonMachine$Cells", name := "put", desc := "(I)V" } : Jvm.MethodName) ({ cls := "ColonMachine$Cells", name := "put", desc := "(I)V" } : Jvm.MethodName)) ∈ TB := tbI4 _ (List.mem_of_getElem? (i := 230) rfl) rfl
theorem in_Cells : (Jvm.Cond.initialized "ColonMachine$Cells") ∈ TB := tbI1 _ (List.mem_of_getElem? (i := 2) rfl) rfl
theorem co_Primitives_dropped : (Jvm.Cond.code ({ cls := "ColonMachine$Primitives", name := "dropped", desc := "(I)I" } : Jvm.MethodName) prog_8_method_9_code (2 : Nat) (Option.some Jvm.ClassFile.FieldType.int)) ∈ TB := tbI5 _ (List.mem_of_getElem? (i := 119) rfl) rfl
theorem ml_Primitives_149 : (Jvm.Cond.methodLink "ColonMachine$Primitives" (149 : Nat) ({ cls := "ColonMachine$Cells", name := "drop", desc := "(I)V" } : Jvm.MethodName)) ∈ TB := tbI5 _ (List.mem_of_getElem? (i := 120) rfl) rfl
theorem im_Cells_drop : (Jvm.Cond.instanceMethod ({ cls := "ColonMachine$Cells", name := "drop", desc := "(I)V" } : Jvm.MethodName)) ∈ TB := tbI5 _ (List.mem_of_getElem? (i := 1) rfl) rfl
theorem se_Cells_drop : (Jvm.Cond.selects "ColonMachine$Cells" ({ cls := "ColonMachine$Cells", name := "drop", desc := "(I)V" } : Jvm.MethodName) ({ cls := "ColonMachine$Cells", name := "drop", desc := "(I)V" } : Jvm.MethodName)) ∈ TB := tbI5 _ (List.mem_of_getElem? (i := 2) rfl) rfl
theorem co_Primitives_swap : (Jvm.Cond.code ({ cls := "ColonMachine$Primitives", name := "swap", desc := "()I" } : Jvm.MethodName) prog_8_method_10_code (2 : Nat) (Option.some Jvm.ClassFile.FieldType.int)) ∈ TB := tbI5 _ (List.mem_of_getElem? (i := 124) rfl) rfl
theorem ml_Primitives_116 : (Jvm.Cond.methodLink "ColonMachine$Primitives" (116 : Nat) ({ cls := "ColonMachine$Cells", name := "at", desc := "(I)I" } : Jvm.MethodName)) ∈ TB := tbI5 _ (List.mem_of_getElem? (i := 110) rfl) rfl
theorem im_Cells_at : (Jvm.Cond.instanceMethod ({ cls := "ColonMachine$Cells", name := "at", desc := "(I)I" } : Jvm.MethodName)) ∈ TB := tbI4 _ (List.mem_of_getElem? (i := 212) rfl) rfl
theorem se_Cells_at : (Jvm.Cond.selects "ColonMachine$Cells" ({ cls := "ColonMachine$Cells", name := "at", desc := "(I)I" } : Jvm.MethodName) ({ cls := "ColonMachine$Cells", name := "at", desc := "(I)I" } : Jvm.MethodName)) ∈ TB := tbI4 _ (List.mem_of_getElem? (i := 213) rfl) rfl
theorem ml_Primitives_152 : (Jvm.Cond.methodLink "ColonMachine$Primitives" (152 : Nat) ({ cls := "ColonMachine$Cells", name := "set", desc := "(II)V" } : Jvm.MethodName)) ∈ TB := tbI5 _ (List.mem_of_getElem? (i := 125) rfl) rfl
theorem im_Cells_set : (Jvm.Cond.instanceMethod ({ cls := "ColonMachine$Cells", name := "set", desc := "(II)V" } : Jvm.MethodName)) ∈ TB := tbI5 _ (List.mem_of_getElem? (i := 126) rfl) rfl
theorem se_Cells_set : (Jvm.Cond.selects "ColonMachine$Cells" ({ cls := "ColonMachine$Cells", name := "set", desc := "(II)V" } : Jvm.MethodName) ({ cls := "ColonMachine$Cells", name := "set", desc := "(II)V" } : Jvm.MethodName)) ∈ TB := tbI5 _ (List.mem_of_getElem? (i := 127) rfl) rfl
theorem co_Primitives_rot : (Jvm.Cond.code ({ cls := "ColonMachine$Primitives", name := "rot", desc := "()I" } : Jvm.MethodName) prog_8_method_11_code (2 : Nat) (Option.some Jvm.ClassFile.FieldType.int)) ∈ TB := tbI5 _ (List.mem_of_getElem? (i := 132) rfl) rfl
theorem co_Primitives_nip : (Jvm.Cond.code ({ cls := "ColonMachine$Primitives", name := "nip", desc := "()I" } : Jvm.MethodName) prog_8_method_12_code (2 : Nat) (Option.some Jvm.ClassFile.FieldType.int)) ∈ TB := tbI5 _ (List.mem_of_getElem? (i := 136) rfl) rfl
theorem ml_Primitives_64 : (Jvm.Cond.methodLink "ColonMachine$Primitives" (64 : Nat) ({ cls := "ColonMachine$Cells", name := "take", desc := "()I" } : Jvm.MethodName)) ∈ TB := tbI5 _ (List.mem_of_getElem? (i := 137) rfl) rfl
theorem im_Cells_take : (Jvm.Cond.instanceMethod ({ cls := "ColonMachine$Cells", name := "take", desc := "()I" } : Jvm.MethodName)) ∈ TB := tbI5 _ (List.mem_of_getElem? (i := 5) rfl) rfl
theorem se_Cells_take : (Jvm.Cond.selects "ColonMachine$Cells" ({ cls := "ColonMachine$Cells", name := "take", desc := "()I" } : Jvm.MethodName) ({ cls := "ColonMachine$Cells", name := "take", desc := "()I" } : Jvm.MethodName)) ∈ TB := tbI5 _ (List.mem_of_getElem? (i := 6) rfl) rfl
theorem co_Primitives_tuck : (Jvm.Cond.code ({ cls := "ColonMachine$Primitives", name := "tuck", desc := "()I" } : Jvm.MethodName) prog_8_method_13_code (1 : Nat) (Option.some Jvm.ClassFile.FieldType.int)) ∈ TB := tbI5 _ (List.mem_of_getElem? (i := 141) rfl) rfl
theorem ml_Primitives_125 : (Jvm.Cond.methodLink "ColonMachine$Primitives" (125 : Nat) ({ cls := "ColonMachine$Primitives", name := "swap", desc := "()I" } : Jvm.MethodName)) ∈ TB := tbI5 _ (List.mem_of_getElem? (i := 121) rfl) rfl
theorem im_Primitives_swap : (Jvm.Cond.instanceMethod ({ cls := "ColonMachine$Primitives", name := "swap", desc := "()I" } : Jvm.MethodName)) ∈ TB := tbI5 _ (List.mem_of_getElem? (i := 123) rfl) rfl
theorem se_Primitives_swap : (Jvm.Cond.selects "ColonMachine$Primitives" ({ cls := "ColonMachine$Primitives", name := "swap", desc := "()I" } : Jvm.MethodName) ({ cls := "ColonMachine$Primitives", name := "swap", desc := "()I" } : Jvm.MethodName)) ∈ TB := tbP _ (List.mem_of_getElem? (i := 32) rfl) rfl
theorem in_Primitives : (Jvm.Cond.initialized "ColonMachine$Primitives") ∈ TB := tbI1 _ (List.mem_of_getElem? (i := 9) rfl) rfl
theorem ml_Primitives_119 : (Jvm.Cond.methodLink "ColonMachine$Primitives" (119 : Nat) ({ cls := "ColonMachine$Primitives", name := "put", desc := "(I)I" } : Jvm.MethodName)) ∈ TB := tbI5 _ (List.mem_of_getElem? (i := 111) rfl) rfl
theorem im_Primitives_put : (Jvm.Cond.instanceMethod ({ cls := "ColonMachine$Primitives", name := "put", desc := "(I)I" } : Jvm.MethodName)) ∈ TB := tbI5 _ (List.mem_of_getElem? (i := 113) rfl) rfl
theorem se_Primitives_put : (Jvm.Cond.selects "ColonMachine$Primitives" ({ cls := "ColonMachine$Primitives", name := "put", desc := "(I)I" } : Jvm.MethodName) ({ cls := "ColonMachine$Primitives", name := "put", desc := "(I)I" } : Jvm.MethodName)) ∈ TB := tbP _ (List.mem_of_getElem? (i := 30) rfl) rfl
theorem co_Primitives_maybeDup : (Jvm.Cond.code ({ cls := "ColonMachine$Primitives", name := "maybeDup", desc := "()I" } : Jvm.MethodName) prog_8_method_14_code (1 : Nat) (Option.some Jvm.ClassFile.FieldType.int)) ∈ TB := tbI5 _ (List.mem_of_getElem? (i := 145) rfl) rfl
theorem ml_Primitives_113 : (Jvm.Cond.methodLink "ColonMachine$Primitives" (113 : Nat) ({ cls := "ColonMachine$Cells", name := "hasRoomFor", desc := "(I)Z" } : Jvm.MethodName)) ∈ TB := tbI5 _ (List.mem_of_getElem? (i := 105) rfl) rfl
theorem im_Cells_hasRoomFor : (Jvm.Cond.instanceMethod ({ cls := "ColonMachine$Cells", name := "hasRoomFor", desc := "(I)Z" } : Jvm.MethodName)) ∈ TB := tbI4 _ (List.mem_of_getElem? (i := 204) rfl) rfl
theorem se_Cells_hasRoomFor : (Jvm.Cond.selects "ColonMachine$Cells" ({ cls := "ColonMachine$Cells", name := "hasRoomFor", desc := "(I)Z" } : Jvm.MethodName) ({ cls := "ColonMachine$Cells", name := "hasRoomFor", desc := "(I)Z" } : Jvm.MethodName)) ∈ TB := tbI4 _ (List.mem_of_getElem? (i := 205) rfl) rfl
theorem co_Primitives_pickCell : (Jvm.Cond.code ({ cls := "ColonMachine$Primitives", name := "pickCell", desc := "()I" } : Jvm.MethodName) prog_8_method_15_code (2 : Nat) (Option.some Jvm.ClassFile.FieldType.int)) ∈ TB := tbI5 _ (List.mem_of_getElem? (i := 149) rfl) rfl
theorem ml_Primitives_101 : (Jvm.Cond.methodLink "ColonMachine$Primitives" (101 : Nat) ({ cls := "ColonMachine$Cells", name := "size", desc := "()I" } : Jvm.MethodName)) ∈ TB := tbI5 _ (List.mem_of_getElem? (i := 95) rfl) rfl
theorem im_Cells_size : (Jvm.Cond.instanceMethod ({ cls := "ColonMachine$Cells", name := "size", desc := "()I" } : Jvm.MethodName)) ∈ TB := tbI2 _ (List.mem_of_getElem? (i := 10) rfl) rfl
theorem se_Cells_size : (Jvm.Cond.selects "ColonMachine$Cells" ({ cls := "ColonMachine$Cells", name := "size", desc := "()I" } : Jvm.MethodName) ({ cls := "ColonMachine$Cells", name := "size", desc := "()I" } : Jvm.MethodName)) ∈ TB := tbI2 _ (List.mem_of_getElem? (i := 11) rfl) rfl
theorem co_Primitives_twoDup : (Jvm.Cond.code ({ cls := "ColonMachine$Primitives", name := "twoDup", desc := "()I" } : Jvm.MethodName) prog_8_method_16_code (1 : Nat) (Option.some Jvm.ClassFile.FieldType.int)) ∈ TB := tbI5 _ (List.mem_of_getElem? (i := 153) rfl) rfl
theorem co_Primitives_shuffle : (Jvm.Cond.code ({ cls := "ColonMachine$Primitives", name := "shuffle", desc := "(I)I" } : Jvm.MethodName) prog_8_method_7_code (2 : Nat) (Option.some Jvm.ClassFile.FieldType.int)) ∈ TB := tbI5 _ (List.mem_of_getElem? (i := 109) rfl) rfl
theorem ml_Primitives_122 : (Jvm.Cond.methodLink "ColonMachine$Primitives" (122 : Nat) ({ cls := "ColonMachine$Primitives", name := "dropped", desc := "(I)I" } : Jvm.MethodName)) ∈ TB := tbI5 _ (List.mem_of_getElem? (i := 116) rfl) rfl
theorem im_Primitives_dropped : (Jvm.Cond.instanceMethod ({ cls := "ColonMachine$Primitives", name := "dropped", desc := "(I)I" } : Jvm.MethodName)) ∈ TB := tbI5 _ (List.mem_of_getElem? (i := 118) rfl) rfl
theorem se_Primitives_dropped : (Jvm.Cond.selects "ColonMachine$Primitives" ({ cls := "ColonMachine$Primitives", name := "dropped", desc := "(I)I" } : Jvm.MethodName) ({ cls := "ColonMachine$Primitives", name := "dropped", desc := "(I)I" } : Jvm.MethodName)) ∈ TB := tbP _ (List.mem_of_getElem? (i := 31) rfl) rfl
theorem ml_Primitives_128 : (Jvm.Cond.methodLink "ColonMachine$Primitives" (128 : Nat) ({ cls := "ColonMachine$Primitives", name := "rot", desc := "()I" } : Jvm.MethodName)) ∈ TB := tbI5 _ (List.mem_of_getElem? (i := 129) rfl) rfl
theorem im_Primitives_rot : (Jvm.Cond.instanceMethod ({ cls := "ColonMachine$Primitives", name := "rot", desc := "()I" } : Jvm.MethodName)) ∈ TB := tbI5 _ (List.mem_of_getElem? (i := 131) rfl) rfl
theorem se_Primitives_rot : (Jvm.Cond.selects "ColonMachine$Primitives" ({ cls := "ColonMachine$Primitives", name := "rot", desc := "()I" } : Jvm.MethodName) ({ cls := "ColonMachine$Primitives", name := "rot", desc := "()I" } : Jvm.MethodName)) ∈ TB := tbP _ (List.mem_of_getElem? (i := 33) rfl) rfl
theorem ml_Primitives_131 : (Jvm.Cond.methodLink "ColonMachine$Primitives" (131 : Nat) ({ cls := "ColonMachine$Primitives", name := "nip", desc := "()I" } : Jvm.MethodName)) ∈ TB := tbI5 _ (List.mem_of_getElem? (i := 133) rfl) rfl
theorem im_Primitives_nip : (Jvm.Cond.instanceMethod ({ cls := "ColonMachine$Primitives", name := "nip", desc := "()I" } : Jvm.MethodName)) ∈ TB := tbI5 _ (List.mem_of_getElem? (i := 135) rfl) rfl
theorem se_Primitives_nip : (Jvm.Cond.selects "ColonMachine$Primitives" ({ cls := "ColonMachine$Primitives", name := "nip", desc := "()I" } : Jvm.MethodName) ({ cls := "ColonMachine$Primitives", name := "nip", desc := "()I" } : Jvm.MethodName)) ∈ TB := tbP _ (List.mem_of_getElem? (i := 34) rfl) rfl
theorem ml_Primitives_134 : (Jvm.Cond.methodLink "ColonMachine$Primitives" (134 : Nat) ({ cls := "ColonMachine$Primitives", name := "tuck", desc := "()I" } : Jvm.MethodName)) ∈ TB := tbI5 _ (List.mem_of_getElem? (i := 138) rfl) rfl
theorem im_Primitives_tuck : (Jvm.Cond.instanceMethod ({ cls := "ColonMachine$Primitives", name := "tuck", desc := "()I" } : Jvm.MethodName)) ∈ TB := tbI5 _ (List.mem_of_getElem? (i := 140) rfl) rfl
theorem se_Primitives_tuck : (Jvm.Cond.selects "ColonMachine$Primitives" ({ cls := "ColonMachine$Primitives", name := "tuck", desc := "()I" } : Jvm.MethodName) ({ cls := "ColonMachine$Primitives", name := "tuck", desc := "()I" } : Jvm.MethodName)) ∈ TB := tbP _ (List.mem_of_getElem? (i := 35) rfl) rfl
theorem ml_Primitives_137 : (Jvm.Cond.methodLink "ColonMachine$Primitives" (137 : Nat) ({ cls := "ColonMachine$Primitives", name := "maybeDup", desc := "()I" } : Jvm.MethodName)) ∈ TB := tbI5 _ (List.mem_of_getElem? (i := 142) rfl) rfl
theorem im_Primitives_maybeDup : (Jvm.Cond.instanceMethod ({ cls := "ColonMachine$Primitives", name := "maybeDup", desc := "()I" } : Jvm.MethodName)) ∈ TB := tbI5 _ (List.mem_of_getElem? (i := 144) rfl) rfl
theorem se_Primitives_maybeDup : (Jvm.Cond.selects "ColonMachine$Primitives" ({ cls := "ColonMachine$Primitives", name := "maybeDup", desc := "()I" } : Jvm.MethodName) ({ cls := "ColonMachine$Primitives", name := "maybeDup", desc := "()I" } : Jvm.MethodName)) ∈ TB := tbP _ (List.mem_of_getElem? (i := 36) rfl) rfl
theorem ml_Primitives_140 : (Jvm.Cond.methodLink "ColonMachine$Primitives" (140 : Nat) ({ cls := "ColonMachine$Primitives", name := "pickCell", desc := "()I" } : Jvm.MethodName)) ∈ TB := tbI5 _ (List.mem_of_getElem? (i := 146) rfl) rfl
theorem im_Primitives_pickCell : (Jvm.Cond.instanceMethod ({ cls := "ColonMachine$Primitives", name := "pickCell", desc := "()I" } : Jvm.MethodName)) ∈ TB := tbI5 _ (List.mem_of_getElem? (i := 148) rfl) rfl
theorem se_Primitives_pickCell : (Jvm.Cond.selects "ColonMachine$Primitives" ({ cls := "ColonMachine$Primitives", name := "pickCell", desc := "()I" } : Jvm.MethodName) ({ cls := "ColonMachine$Primitives", name := "pickCell", desc := "()I" } : Jvm.MethodName)) ∈ TB := tbP _ (List.mem_of_getElem? (i := 37) rfl) rfl
theorem ml_Primitives_143 : (Jvm.Cond.methodLink "ColonMachine$Primitives" (143 : Nat) ({ cls := "ColonMachine$Primitives", name := "twoDup", desc := "()I" } : Jvm.MethodName)) ∈ TB := tbI5 _ (List.mem_of_getElem? (i := 150) rfl) rfl
theorem im_Primitives_twoDup : (Jvm.Cond.instanceMethod ({ cls := "ColonMachine$Primitives", name := "twoDup", desc := "()I" } : Jvm.MethodName)) ∈ TB := tbI5 _ (List.mem_of_getElem? (i := 152) rfl) rfl
theorem se_Primitives_twoDup : (Jvm.Cond.selects "ColonMachine$Primitives" ({ cls := "ColonMachine$Primitives", name := "twoDup", desc := "()I" } : Jvm.MethodName) ({ cls := "ColonMachine$Primitives", name := "twoDup", desc := "()I" } : Jvm.MethodName)) ∈ TB := tbP _ (List.mem_of_getElem? (i := 38) rfl) rfl
theorem co_Primitives_flag : (Jvm.Cond.code ({ cls := "ColonMachine$Primitives", name := "flag", desc := "(Z)I" } : Jvm.MethodName) prog_8_method_19_code (1 : Nat) (Option.some Jvm.ClassFile.FieldType.int)) ∈ TB := tbI5 _ (List.mem_of_getElem? (i := 176) rfl) rfl
theorem co_Primitives_ofOne : (Jvm.Cond.code ({ cls := "ColonMachine$Primitives", name := "ofOne", desc := "(II)I" } : Jvm.MethodName) prog_8_method_20_code (2 : Nat) (Option.some Jvm.ClassFile.FieldType.int)) ∈ TB := tbI5 _ (List.mem_of_getElem? (i := 173) rfl) rfl
theorem ml_Primitives_175 : (Jvm.Cond.methodLink "ColonMachine$Primitives" (175 : Nat) ({ cls := "ColonMachine$Primitives", name := "flag", desc := "(Z)I" } : Jvm.MethodName)) ∈ TB := tbI5 _ (List.mem_of_getElem? (i := 174) rfl) rfl
theorem sm_Primitives_flag : (Jvm.Cond.static ({ cls := "ColonMachine$Primitives", name := "flag", desc := "(Z)I" } : Jvm.MethodName)) ∈ TB := tbI5 _ (List.mem_of_getElem? (i := 175) rfl) rfl
theorem co_Primitives_ofTwo : (Jvm.Cond.code ({ cls := "ColonMachine$Primitives", name := "ofTwo", desc := "(III)I" } : Jvm.MethodName) prog_8_method_21_code (3 : Nat) (Option.some Jvm.ClassFile.FieldType.int)) ∈ TB := tbI5 _ (List.mem_of_getElem? (i := 189) rfl) rfl
theorem co_Primitives_useReturns : (Jvm.Cond.code ({ cls := "ColonMachine$Primitives", name := "useReturns", desc := "(I)I" } : Jvm.MethodName) prog_8_method_23_code (2 : Nat) (Option.some Jvm.ClassFile.FieldType.int)) ∈ TB := tbI5 _ (List.mem_of_getElem? (i := 193) rfl) rfl
theorem fl_Primitives_15 : (Jvm.Cond.fieldLink "ColonMachine$Primitives" (15 : Nat) "ColonMachine$Primitives" "returns" "LColonMachine$Cells;") ∈ TB := tbI1 _ (List.mem_of_getElem? (i := 189) rfl) rfl
theorem fl_Primitives_18 : (Jvm.Cond.fieldLink "ColonMachine$Primitives" (18 : Nat) "ColonMachine$Primitives" "calls" "LColonMachine$Calls;") ∈ TB := tbI1 _ (List.mem_of_getElem? (i := 190) rfl) rfl
theorem ml_Primitives_188 : (Jvm.Cond.methodLink "ColonMachine$Primitives" (188 : Nat) ({ cls := "ColonMachine$Calls", name := "end", desc := "()V" } : Jvm.MethodName)) ∈ TB := tbI5 _ (List.mem_of_getElem? (i := 194) rfl) rfl
theorem im_Calls_end : (Jvm.Cond.instanceMethod ({ cls := "ColonMachine$Calls", name := "end", desc := "()V" } : Jvm.MethodName)) ∈ TB := tbI5 _ (List.mem_of_getElem? (i := 195) rfl) rfl
theorem se_Calls_end : (Jvm.Cond.selects "ColonMachine$Calls" ({ cls := "ColonMachine$Calls", name := "end", desc := "()V" } : Jvm.MethodName) ({ cls := "ColonMachine$Calls", name := "end", desc := "()V" } : Jvm.MethodName)) ∈ TB := tbI5 _ (List.mem_of_getElem? (i := 196) rfl) rfl
theorem co_Primitives_read : (Jvm.Cond.code ({ cls := "ColonMachine$Primitives", name := "read", desc := "()I" } : Jvm.MethodName) prog_8_method_25_code (1 : Nat) (Option.some Jvm.ClassFile.FieldType.int)) ∈ TB := tbI5 _ (List.mem_of_getElem? (i := 209) rfl) rfl
theorem fl_Primitives_22 : (Jvm.Cond.fieldLink "ColonMachine$Primitives" (22 : Nat) "ColonMachine$Primitives" "memory" "LColonMachine$Memory;") ∈ TB := tbI1 _ (List.mem_of_getElem? (i := 191) rfl) rfl
theorem ml_Primitives_210 : (Jvm.Cond.methodLink "ColonMachine$Primitives" (210 : Nat) ({ cls := "ColonMachine$Memory", name := "isValid", desc := "(I)Z" } : Jvm.MethodName)) ∈ TB := tbI5 _ (List.mem_of_getElem? (i := 210) rfl) rfl
theorem im_Memory_isValid : (Jvm.Cond.instanceMethod ({ cls := "ColonMachine$Memory", name := "isValid", desc := "(I)Z" } : Jvm.MethodName)) ∈ TB := tbI5 _ (List.mem_of_getElem? (i := 211) rfl) rfl
theorem se_Memory_isValid : (Jvm.Cond.selects "ColonMachine$Memory" ({ cls := "ColonMachine$Memory", name := "isValid", desc := "(I)Z" } : Jvm.MethodName) ({ cls := "ColonMachine$Memory", name := "isValid", desc := "(I)Z" } : Jvm.MethodName)) ∈ TB := tbI5 _ (List.mem_of_getElem? (i := 212) rfl) rfl
theorem ml_Primitives_197 : (Jvm.Cond.methodLink "ColonMachine$Primitives" (197 : Nat) ({ cls := "ColonMachine$Memory", name := "read", desc := "(I)I" } : Jvm.MethodName)) ∈ TB := tbI5 _ (List.mem_of_getElem? (i := 214) rfl) rfl
theorem co_Primitives_write : (Jvm.Cond.code ({ cls := "ColonMachine$Primitives", name := "write", desc := "(I)I" } : Jvm.MethodName) prog_8_method_26_code (3 : Nat) (Option.some Jvm.ClassFile.FieldType.int)) ∈ TB := tbI5 _ (List.mem_of_getElem? (i := 221) rfl) rfl
theorem ml_Primitives_213 : (Jvm.Cond.methodLink "ColonMachine$Primitives" (213 : Nat) ({ cls := "ColonMachine$Memory", name := "write", desc := "(II)V" } : Jvm.MethodName)) ∈ TB := tbI5 _ (List.mem_of_getElem? (i := 222) rfl) rfl
theorem co_Primitives_comma : (Jvm.Cond.code ({ cls := "ColonMachine$Primitives", name := "comma", desc := "()I" } : Jvm.MethodName) prog_8_method_27_code (1 : Nat) (Option.some Jvm.ClassFile.FieldType.int)) ∈ TB := tbI5 _ (List.mem_of_getElem? (i := 229) rfl) rfl
theorem ml_Primitives_215 : (Jvm.Cond.methodLink "ColonMachine$Primitives" (215 : Nat) ({ cls := "ColonMachine$Memory", name := "isFull", desc := "()Z" } : Jvm.MethodName)) ∈ TB := tbI5 _ (List.mem_of_getElem? (i := 230) rfl) rfl
theorem im_Memory_isFull : (Jvm.Cond.instanceMethod ({ cls := "ColonMachine$Memory", name := "isFull", desc := "()Z" } : Jvm.MethodName)) ∈ TB := tbI5 _ (List.mem_of_getElem? (i := 231) rfl) rfl
theorem se_Memory_isFull : (Jvm.Cond.selects "ColonMachine$Memory" ({ cls := "ColonMachine$Memory", name := "isFull", desc := "()Z" } : Jvm.MethodName) ({ cls := "ColonMachine$Memory", name := "isFull", desc := "()Z" } : Jvm.MethodName)) ∈ TB := tbI5 _ (List.mem_of_getElem? (i := 232) rfl) rfl
theorem ml_Primitives_218 : (Jvm.Cond.methodLink "ColonMachine$Primitives" (218 : Nat) ({ cls := "ColonMachine$Memory", name := "comma", desc := "(I)V" } : Jvm.MethodName)) ∈ TB := tbI5 _ (List.mem_of_getElem? (i := 234) rfl) rfl
theorem im_Memory_comma : (Jvm.Cond.instanceMethod ({ cls := "ColonMachine$Memory", name := "comma", desc := "(I)V" } : Jvm.MethodName)) ∈ TB := tbI5 _ (List.mem_of_getElem? (i := 235) rfl) rfl
theorem se_Memory_comma : (Jvm.Cond.selects "ColonMachine$Memory" ({ cls := "ColonMachine$Memory", name := "comma", desc := "(I)V" } : Jvm.MethodName) ({ cls := "ColonMachine$Memory", name := "comma", desc := "(I)V" } : Jvm.MethodName)) ∈ TB := tbI5 _ (List.mem_of_getElem? (i := 236) rfl) rfl
theorem co_Primitives_said : (Jvm.Cond.code ({ cls := "ColonMachine$Primitives", name := "said", desc := "(II)I" } : Jvm.MethodName) prog_8_method_30_code (3 : Nat) (Option.some Jvm.ClassFile.FieldType.int)) ∈ TB := tbI6 _ (List.mem_of_getElem? (i := 20) rfl) rfl
theorem fl_Primitives_26 : (Jvm.Cond.fieldLink "ColonMachine$Primitives" (26 : Nat) "ColonMachine$Primitives" "out" "LColonMachine$Out;") ∈ TB := tbI1 _ (List.mem_of_getElem? (i := 192) rfl) rfl
theorem ml_Primitives_228 : (Jvm.Cond.methodLink "ColonMachine$Primitives" (228 : Nat) ({ cls := "ColonMachine$Memory", name := "base", desc := "()I" } : Jvm.MethodName)) ∈ TB := tbI6 _ (List.mem_of_getElem? (i := 21) rfl) rfl
theorem im_Memory_base : (Jvm.Cond.instanceMethod ({ cls := "ColonMachine$Memory", name := "base", desc := "()I" } : Jvm.MethodName)) ∈ TB := tbI2 _ (List.mem_of_getElem? (i := 208) rfl) rfl
theorem se_Memory_base : (Jvm.Cond.selects "ColonMachine$Memory" ({ cls := "ColonMachine$Memory", name := "base", desc := "()I" } : Jvm.MethodName) ({ cls := "ColonMachine$Memory", name := "base", desc := "()I" } : Jvm.MethodName)) ∈ TB := tbI2 _ (List.mem_of_getElem? (i := 209) rfl) rfl
theorem ml_Primitives_231 : (Jvm.Cond.methodLink "ColonMachine$Primitives" (231 : Nat) ({ cls := "ColonMachine$Out", name := "saidNumber", desc := "(JI)I" } : Jvm.MethodName)) ∈ TB := tbI6 _ (List.mem_of_getElem? (i := 22) rfl) rfl
theorem im_Out_saidNumber : (Jvm.Cond.instanceMethod ({ cls := "ColonMachine$Out", name := "saidNumber", desc := "(JI)I" } : Jvm.MethodName)) ∈ TB := tbI6 _ (List.mem_of_getElem? (i := 23) rfl) rfl
theorem se_Out_saidNumber : (Jvm.Cond.selects "ColonMachine$Out" ({ cls := "ColonMachine$Out", name := "saidNumber", desc := "(JI)I" } : Jvm.MethodName) ({ cls := "ColonMachine$Out", name := "saidNumber", desc := "(JI)I" } : Jvm.MethodName)) ∈ TB := tbI6 _ (List.mem_of_getElem? (i := 24) rfl) rfl
theorem cl_Primitives_237 : (Jvm.Cond.constantLong "ColonMachine$Primitives" (237 : Nat) (4294967295 : Int64)) ∈ TB := tbI6 _ (List.mem_of_getElem? (i := 30) rfl) rfl
theorem ml_Primitives_239 : (Jvm.Cond.methodLink "ColonMachine$Primitives" (239 : Nat) ({ cls := "ColonMachine$Out", name := "saidByte", desc := "(I)I" } : Jvm.MethodName)) ∈ TB := tbI6 _ (List.mem_of_getElem? (i := 31) rfl) rfl
theorem im_Out_saidByte : (Jvm.Cond.instanceMethod ({ cls := "ColonMachine$Out", name := "saidByte", desc := "(I)I" } : Jvm.MethodName)) ∈ TB := tbI6 _ (List.mem_of_getElem? (i := 32) rfl) rfl
theorem se_Out_saidByte : (Jvm.Cond.selects "ColonMachine$Out" ({ cls := "ColonMachine$Out", name := "saidByte", desc := "(I)I" } : Jvm.MethodName) ({ cls := "ColonMachine$Out", name := "saidByte", desc := "(I)I" } : Jvm.MethodName)) ∈ TB := tbI6 _ (List.mem_of_getElem? (i := 33) rfl) rfl
theorem co_Primitives_allocate : (Jvm.Cond.code ({ cls := "ColonMachine$Primitives", name := "allocate", desc := "()I" } : Jvm.MethodName) prog_8_method_31_code (2 : Nat) (Option.some Jvm.ClassFile.FieldType.int)) ∈ TB := tbI6 _ (List.mem_of_getElem? (i := 38) rfl) rfl
theorem ml_Primitives_242 : (Jvm.Cond.methodLink "ColonMachine$Primitives" (242 : Nat) ({ cls := "ColonMachine$Memory", name := "allocate", desc := "(I)I" } : Jvm.MethodName)) ∈ TB := tbI6 _ (List.mem_of_getElem? (i := 39) rfl) rfl
theorem im_Memory_allocate : (Jvm.Cond.instanceMethod ({ cls := "ColonMachine$Memory", name := "allocate", desc := "(I)I" } : Jvm.MethodName)) ∈ TB := tbI6 _ (List.mem_of_getElem? (i := 40) rfl) rfl
theorem se_Memory_allocate : (Jvm.Cond.selects "ColonMachine$Memory" ({ cls := "ColonMachine$Memory", name := "allocate", desc := "(I)I" } : Jvm.MethodName) ({ cls := "ColonMachine$Memory", name := "allocate", desc := "(I)I" } : Jvm.MethodName)) ∈ TB := tbI6 _ (List.mem_of_getElem? (i := 41) rfl) rfl
theorem co_Primitives_free : (Jvm.Cond.code ({ cls := "ColonMachine$Primitives", name := "free", desc := "()I" } : Jvm.MethodName) prog_8_method_32_code (1 : Nat) (Option.some Jvm.ClassFile.FieldType.int)) ∈ TB := tbI6 _ (List.mem_of_getElem? (i := 59) rfl) rfl
theorem ml_Primitives_244 : (Jvm.Cond.methodLink "ColonMachine$Primitives" (244 : Nat) ({ cls := "ColonMachine$Memory", name := "free", desc := "(I)Z" } : Jvm.MethodName)) ∈ TB := tbI6 _ (List.mem_of_getElem? (i := 60) rfl) rfl
theorem im_Memory_free : (Jvm.Cond.instanceMethod ({ cls := "ColonMachine$Memory", name := "free", desc := "(I)Z" } : Jvm.MethodName)) ∈ TB := tbI6 _ (List.mem_of_getElem? (i := 61) rfl) rfl
theorem se_Memory_free : (Jvm.Cond.selects "ColonMachine$Memory" ({ cls := "ColonMachine$Memory", name := "free", desc := "(I)Z" } : Jvm.MethodName) ({ cls := "ColonMachine$Memory", name := "free", desc := "(I)Z" } : Jvm.MethodName)) ∈ TB := tbI6 _ (List.mem_of_getElem? (i := 62) rfl) rfl
theorem co_Primitives_resize : (Jvm.Cond.code ({ cls := "ColonMachine$Primitives", name := "resize", desc := "()I" } : Jvm.MethodName) prog_8_method_33_code (2 : Nat) (Option.some Jvm.ClassFile.FieldType.int)) ∈ TB := tbI6 _ (List.mem_of_getElem? (i := 75) rfl) rfl
theorem ml_Primitives_246 : (Jvm.Cond.methodLink "ColonMachine$Primitives" (246 : Nat) ({ cls := "ColonMachine$Memory", name := "resize", desc := "(II)I" } : Jvm.MethodName)) ∈ TB := tbI6 _ (List.mem_of_getElem? (i := 76) rfl) rfl
theorem im_Memory_resize : (Jvm.Cond.instanceMethod ({ cls := "ColonMachine$Memory", name := "resize", desc := "(II)I" } : Jvm.MethodName)) ∈ TB := tbI6 _ (List.mem_of_getElem? (i := 77) rfl) rfl
theorem se_Memory_resize : (Jvm.Cond.selects "ColonMachine$Memory" ({ cls := "ColonMachine$Memory", name := "resize", desc := "(II)I" } : Jvm.MethodName) ({ cls := "ColonMachine$Memory", name := "resize", desc := "(II)I" } : Jvm.MethodName)) ∈ TB := tbI6 _ (List.mem_of_getElem? (i := 78) rfl) rfl
abbrev b_Primitives_isToken : ByteArray := prog_8_method_2_code
def y_Primitives_isToken : MethodName := { cls := "ColonMachine$Primitives", name := "isToken", desc := "(I)Z" }
abbrev w_Primitives_isToken : List Cond := .code y_Primitives_isToken b_Primitives_isToken 1 (Option.some Jvm.ClassFile.FieldType.boolean) :: TB
abbrev b_Primitives_isForBodies : ByteArray := prog_8_method_5_code
def y_Primitives_isForBodies : MethodName := { cls := "ColonMachine$Primitives", name := "isForBodies", desc := "(I)Z" }
abbrev w_Primitives_isForBodies : List Cond := .code y_Primitives_isForBodies b_Primitives_isForBodies 1 (Option.some Jvm.ClassFile.FieldType.boolean) :: TB
abbrev b_Primitives_ownReturnsNeeded : ByteArray := prog_8_method_6_code
def y_Primitives_ownReturnsNeeded : MethodName := { cls := "ColonMachine$Primitives", name := "ownReturnsNeeded", desc := "(I)I" }
abbrev w_Primitives_ownReturnsNeeded : List Cond := .code y_Primitives_ownReturnsNeeded b_Primitives_ownReturnsNeeded 1 (Option.some Jvm.ClassFile.FieldType.int) :: TB
abbrev b_Primitives_put : ByteArray := prog_8_method_8_code
def y_Primitives_put : MethodName := { cls := "ColonMachine$Primitives", name := "put", desc := "(I)I" }
abbrev w_Primitives_put : List Cond := .code y_Primitives_put b_Primitives_put 2 (Option.some Jvm.ClassFile.FieldType.int) :: TB
theorem v_Cells_put : y_Cells_put.cls = "ColonMachine$Cells" ∧ y_Cells_put.cls ≠ "java/lang/invoke/MethodHandle" ∧ y_Cells_put.cls ≠ "java/lang/invoke/VarHandle" ∧ (parseMethodDescriptor y_Cells_put.desc).map (fun d => d.parameters.length) = some 1 := by decide +kernel
abbrev b_Primitives_dropped : ByteArray := prog_8_method_9_code
def y_Primitives_dropped : MethodName := { cls := "ColonMachine$Primitives", name := "dropped", desc := "(I)I" }
abbrev w_Primitives_dropped : List Cond := .code y_Primitives_dropped b_Primitives_dropped 2 (Option.some Jvm.ClassFile.FieldType.int) :: TB
theorem v_Cells_drop : y_Cells_drop.cls = "ColonMachine$Cells" ∧ y_Cells_drop.cls ≠ "java/lang/invoke/MethodHandle" ∧ y_Cells_drop.cls ≠ "java/lang/invoke/VarHandle" ∧ (parseMethodDescriptor y_Cells_drop.desc).map (fun d => d.parameters.length) = some 1 := by decide +kernel
abbrev b_Primitives_swap : ByteArray := prog_8_method_10_code
def y_Primitives_swap : MethodName := { cls := "ColonMachine$Primitives", name := "swap", desc := "()I" }
abbrev w_Primitives_swap : List Cond := .code y_Primitives_swap b_Primitives_swap 2 (Option.some Jvm.ClassFile.FieldType.int) :: TB
theorem v_Cells_at : y_Cells_at.cls = "ColonMachine$Cells" ∧ y_Cells_at.cls ≠ "java/lang/invoke/MethodHandle" ∧ y_Cells_at.cls ≠ "java/lang/invoke/VarHandle" ∧ (parseMethodDescriptor y_Cells_at.desc).map (fun d => d.parameters.length) = some 1 := by decide +kernel
theorem v_Cells_set : y_Cells_set.cls = "ColonMachine$Cells" ∧ y_Cells_set.cls ≠ "java/lang/invoke/MethodHandle" ∧ y_Cells_set.cls ≠ "java/lang/invoke/VarHandle" ∧ (parseMethodDescriptor y_Cells_set.desc).map (fun d => d.parameters.length) = some 2 := by decide +kernel
abbrev b_Primitives_rot : ByteArray := prog_8_method_11_code
def y_Primitives_rot : MethodName := { cls := "ColonMachine$Primitives", name := "rot", desc := "()I" }
abbrev w_Primitives_rot : List Cond := .code y_Primitives_rot b_Primitives_rot 2 (Option.some Jvm.ClassFile.FieldType.int) :: TB
abbrev b_Primitives_nip : ByteArray := prog_8_method_12_code
def y_Primitives_nip : MethodName := { cls := "ColonMachine$Primitives", name := "nip", desc := "()I" }
abbrev w_Primitives_nip : List Cond := .code y_Primitives_nip b_Primitives_nip 2 (Option.some Jvm.ClassFile.FieldType.int) :: TB
theorem v_Cells_take : y_Cells_take.cls = "ColonMachine$Cells" ∧ y_Cells_take.cls ≠ "java/lang/invoke/MethodHandle" ∧ y_Cells_take.cls ≠ "java/lang/invoke/VarHandle" ∧ (parseMethodDescriptor y_Cells_take.desc).map (fun d => d.parameters.length) = some 0 := by decide +kernel
abbrev b_Primitives_tuck : ByteArray := prog_8_method_13_code
def y_Primitives_tuck : MethodName := { cls := "ColonMachine$Primitives", name := "tuck", desc := "()I" }
abbrev w_Primitives_tuck : List Cond := .code y_Primitives_tuck b_Primitives_tuck 1 (Option.some Jvm.ClassFile.FieldType.int) :: TB
theorem v_Primitives_swap : y_Primitives_swap.cls = "ColonMachine$Primitives" ∧ y_Primitives_swap.cls ≠ "java/lang/invoke/MethodHandle" ∧ y_Primitives_swap.cls ≠ "java/lang/invoke/VarHandle" ∧ (parseMethodDescriptor y_Primitives_swap.desc).map (fun d => d.parameters.length) = some 0 := by decide +kernel
theorem v_Primitives_put : y_Primitives_put.cls = "ColonMachine$Primitives" ∧ y_Primitives_put.cls ≠ "java/lang/invoke/MethodHandle" ∧ y_Primitives_put.cls ≠ "java/lang/invoke/VarHandle" ∧ (parseMethodDescriptor y_Primitives_put.desc).map (fun d => d.parameters.length) = some 1 := by decide +kernel
abbrev b_Primitives_maybeDup : ByteArray := prog_8_method_14_code
def y_Primitives_maybeDup : MethodName := { cls := "ColonMachine$Primitives", name := "maybeDup", desc := "()I" }
abbrev w_Primitives_maybeDup : List Cond := .code y_Primitives_maybeDup b_Primitives_maybeDup 1 (Option.some Jvm.ClassFile.FieldType.int) :: TB
theorem v_Cells_hasRoomFor : y_Cells_hasRoomFor.cls = "ColonMachine$Cells" ∧ y_Cells_hasRoomFor.cls ≠ "java/lang/invoke/MethodHandle" ∧ y_Cells_hasRoomFor.cls ≠ "java/lang/invoke/VarHandle" ∧ (parseMethodDescriptor y_Cells_hasRoomFor.desc).map (fun d => d.parameters.length) = some 1 := by decide +kernel
abbrev b_Primitives_pickCell : ByteArray := prog_8_method_15_code
def y_Primitives_pickCell : MethodName := { cls := "ColonMachine$Primitives", name := "pickCell", desc := "()I" }
abbrev w_Primitives_pickCell : List Cond := .code y_Primitives_pickCell b_Primitives_pickCell 2 (Option.some Jvm.ClassFile.FieldType.int) :: TB
theorem v_Cells_size : y_Cells_size.cls = "ColonMachine$Cells" ∧ y_Cells_size.cls ≠ "java/lang/invoke/MethodHandle" ∧ y_Cells_size.cls ≠ "java/lang/invoke/VarHandle" ∧ (parseMethodDescriptor y_Cells_size.desc).map (fun d => d.parameters.length) = some 0 := by decide +kernel
abbrev b_Primitives_twoDup : ByteArray := prog_8_method_16_code
def y_Primitives_twoDup : MethodName := { cls := "ColonMachine$Primitives", name := "twoDup", desc := "()I" }
abbrev w_Primitives_twoDup : List Cond := .code y_Primitives_twoDup b_Primitives_twoDup 1 (Option.some Jvm.ClassFile.FieldType.int) :: TB
abbrev b_Primitives_shuffle : ByteArray := prog_8_method_7_code
def y_Primitives_shuffle : MethodName := { cls := "ColonMachine$Primitives", name := "shuffle", desc := "(I)I" }
abbrev w_Primitives_shuffle : List Cond := .code y_Primitives_shuffle b_Primitives_shuffle 2 (Option.some Jvm.ClassFile.FieldType.int) :: TB
theorem v_Primitives_dropped : y_Primitives_dropped.cls = "ColonMachine$Primitives" ∧ y_Primitives_dropped.cls ≠ "java/lang/invoke/MethodHandle" ∧ y_Primitives_dropped.cls ≠ "java/lang/invoke/VarHandle" ∧ (parseMethodDescriptor y_Primitives_dropped.desc).map (fun d => d.parameters.length) = some 1 := by decide +kernel
theorem v_Primitives_rot : y_Primitives_rot.cls = "ColonMachine$Primitives" ∧ y_Primitives_rot.cls ≠ "java/lang/invoke/MethodHandle" ∧ y_Primitives_rot.cls ≠ "java/lang/invoke/VarHandle" ∧ (parseMethodDescriptor y_Primitives_rot.desc).map (fun d => d.parameters.length) = some 0 := by decide +kernel
theorem v_Primitives_nip : y_Primitives_nip.cls = "ColonMachine$Primitives" ∧ y_Primitives_nip.cls ≠ "java/lang/invoke/MethodHandle" ∧ y_Primitives_nip.cls ≠ "java/lang/invoke/VarHandle" ∧ (parseMethodDescriptor y_Primitives_nip.desc).map (fun d => d.parameters.length) = some 0 := by decide +kernel
theorem v_Primitives_tuck : y_Primitives_tuck.cls = "ColonMachine$Primitives" ∧ y_Primitives_tuck.cls ≠ "java/lang/invoke/MethodHandle" ∧ y_Primitives_tuck.cls ≠ "java/lang/invoke/VarHandle" ∧ (parseMethodDescriptor y_Primitives_tuck.desc).map (fun d => d.parameters.length) = some 0 := by decide +kernel
theorem v_Primitives_maybeDup : y_Primitives_maybeDup.cls = "ColonMachine$Primitives" ∧ y_Primitives_maybeDup.cls ≠ "java/lang/invoke/MethodHandle" ∧ y_Primitives_maybeDup.cls ≠ "java/lang/invoke/VarHandle" ∧ (parseMethodDescriptor y_Primitives_maybeDup.desc).map (fun d => d.parameters.length) = some 0 := by decide +kernel
theorem v_Primitives_pickCell : y_Primitives_pickCell.cls = "ColonMachine$Primitives" ∧ y_Primitives_pickCell.cls ≠ "java/lang/invoke/MethodHandle" ∧ y_Primitives_pickCell.cls ≠ "java/lang/invoke/VarHandle" ∧ (parseMethodDescriptor y_Primitives_pickCell.desc).map (fun d => d.parameters.length) = some 0 := by decide +kernel
theorem v_Primitives_twoDup : y_Primitives_twoDup.cls = "ColonMachine$Primitives" ∧ y_Primitives_twoDup.cls ≠ "java/lang/invoke/MethodHandle" ∧ y_Primitives_twoDup.cls ≠ "java/lang/invoke/VarHandle" ∧ (parseMethodDescriptor y_Primitives_twoDup.desc).map (fun d => d.parameters.length) = some 0 := by decide +kernel
abbrev b_Primitives_flag : ByteArray := prog_8_method_19_code
def y_Primitives_flag : MethodName := { cls := "ColonMachine$Primitives", name := "flag", desc := "(Z)I" }
abbrev w_Primitives_flag : List Cond := .code y_Primitives_flag b_Primitives_flag 1 (Option.some Jvm.ClassFile.FieldType.int) :: TB
abbrev b_Primitives_ofOne : ByteArray := prog_8_method_20_code
def y_Primitives_ofOne : MethodName := { cls := "ColonMachine$Primitives", name := "ofOne", desc := "(II)I" }
abbrev w_Primitives_ofOne : List Cond := .code y_Primitives_ofOne b_Primitives_ofOne 2 (Option.some Jvm.ClassFile.FieldType.int) :: TB
theorem vs_Primitives_flag : y_Primitives_flag.cls ≠ "java/lang/invoke/MethodHandle" ∧ y_Primitives_flag.cls ≠ "java/lang/invoke/VarHandle" ∧ (parseMethodDescriptor y_Primitives_flag.desc).map (fun d => d.parameters.length) = some 1 := by decide +kernel
abbrev b_Primitives_ofTwo : ByteArray := prog_8_method_21_code
def y_Primitives_ofTwo : MethodName := { cls := "ColonMachine$Primitives", name := "ofTwo", desc := "(III)I" }
abbrev w_Primitives_ofTwo : List Cond := .code y_Primitives_ofTwo b_Primitives_ofTwo 3 (Option.some Jvm.ClassFile.FieldType.int) :: TB
abbrev b_Primitives_useReturns : ByteArray := prog_8_method_23_code
def y_Primitives_useReturns : MethodName := { cls := "ColonMachine$Primitives", name := "useReturns", desc := "(I)I" }
abbrev w_Primitives_useReturns : List Cond := .code y_Primitives_useReturns b_Primitives_useReturns 2 (Option.some Jvm.ClassFile.FieldType.int) :: TB
theorem v_Calls_end : y_Calls_end.cls = "ColonMachine$Calls" ∧ y_Calls_end.cls ≠ "java/lang/invoke/MethodHandle" ∧ y_Calls_end.cls ≠ "java/lang/invoke/VarHandle" ∧ (parseMethodDescriptor y_Calls_end.desc).map (fun d => d.parameters.length) = some 0 := by decide +kernel
abbrev b_Primitives_read : ByteArray := prog_8_method_25_code
def y_Primitives_read : MethodName := { cls := "ColonMachine$Primitives", name := "read", desc := "()I" }
abbrev w_Primitives_read : List Cond := .code y_Primitives_read b_Primitives_read 1 (Option.some Jvm.ClassFile.FieldType.int) :: TB
theorem v_Memory_isValid : y_Memory_isValid.cls = "ColonMachine$Memory" ∧ y_Memory_isValid.cls ≠ "java/lang/invoke/MethodHandle" ∧ y_Memory_isValid.cls ≠ "java/lang/invoke/VarHandle" ∧ (parseMethodDescriptor y_Memory_isValid.desc).map (fun d => d.parameters.length) = some 1 := by decide +kernel
abbrev b_Primitives_write : ByteArray := prog_8_method_26_code
def y_Primitives_write : MethodName := { cls := "ColonMachine$Primitives", name := "write", desc := "(I)I" }
abbrev w_Primitives_write : List Cond := .code y_Primitives_write b_Primitives_write 3 (Option.some Jvm.ClassFile.FieldType.int) :: TB
abbrev b_Primitives_comma : ByteArray := prog_8_method_27_code
def y_Primitives_comma : MethodName := { cls := "ColonMachine$Primitives", name := "comma", desc := "()I" }
abbrev w_Primitives_comma : List Cond := .code y_Primitives_comma b_Primitives_comma 1 (Option.some Jvm.ClassFile.FieldType.int) :: TB
theorem v_Memory_isFull : y_Memory_isFull.cls = "ColonMachine$Memory" ∧ y_Memory_isFull.cls ≠ "java/lang/invoke/MethodHandle" ∧ y_Memory_isFull.cls ≠ "java/lang/invoke/VarHandle" ∧ (parseMethodDescriptor y_Memory_isFull.desc).map (fun d => d.parameters.length) = some 0 := by decide +kernel
theorem v_Memory_comma : y_Memory_comma.cls = "ColonMachine$Memory" ∧ y_Memory_comma.cls ≠ "java/lang/invoke/MethodHandle" ∧ y_Memory_comma.cls ≠ "java/lang/invoke/VarHandle" ∧ (parseMethodDescriptor y_Memory_comma.desc).map (fun d => d.parameters.length) = some 1 := by decide +kernel
abbrev b_Primitives_said : ByteArray := prog_8_method_30_code
def y_Primitives_said : MethodName := { cls := "ColonMachine$Primitives", name := "said", desc := "(II)I" }
abbrev w_Primitives_said : List Cond := .code y_Primitives_said b_Primitives_said 3 (Option.some Jvm.ClassFile.FieldType.int) :: TB
theorem v_Memory_base : y_Memory_base.cls = "ColonMachine$Memory" ∧ y_Memory_base.cls ≠ "java/lang/invoke/MethodHandle" ∧ y_Memory_base.cls ≠ "java/lang/invoke/VarHandle" ∧ (parseMethodDescriptor y_Memory_base.desc).map (fun d => d.parameters.length) = some 0 := by decide +kernel
theorem v_Out_saidNumber : y_Out_saidNumber.cls = "ColonMachine$Out" ∧ y_Out_saidNumber.cls ≠ "java/lang/invoke/MethodHandle" ∧ y_Out_saidNumber.cls ≠ "java/lang/invoke/VarHandle" ∧ (parseMethodDescriptor y_Out_saidNumber.desc).map (fun d => d.parameters.length) = some 2 := by decide +kernel
theorem v_Out_saidByte : y_Out_saidByte.cls = "ColonMachine$Out" ∧ y_Out_saidByte.cls ≠ "java/lang/invoke/MethodHandle" ∧ y_Out_saidByte.cls ≠ "java/lang/invoke/VarHandle" ∧ (parseMethodDescriptor y_Out_saidByte.desc).map (fun d => d.parameters.length) = some 1 := by decide +kernel
abbrev b_Primitives_allocate : ByteArray := prog_8_method_31_code
def y_Primitives_allocate : MethodName := { cls := "ColonMachine$Primitives", name := "allocate", desc := "()I" }
abbrev w_Primitives_allocate : List Cond := .code y_Primitives_allocate b_Primitives_allocate 2 (Option.some Jvm.ClassFile.FieldType.int) :: TB
theorem v_Memory_allocate : y_Memory_allocate.cls = "ColonMachine$Memory" ∧ y_Memory_allocate.cls ≠ "java/lang/invoke/MethodHandle" ∧ y_Memory_allocate.cls ≠ "java/lang/invoke/VarHandle" ∧ (parseMethodDescriptor y_Memory_allocate.desc).map (fun d => d.parameters.length) = some 1 := by decide +kernel
abbrev b_Primitives_free : ByteArray := prog_8_method_32_code
def y_Primitives_free : MethodName := { cls := "ColonMachine$Primitives", name := "free", desc := "()I" }
abbrev w_Primitives_free : List Cond := .code y_Primitives_free b_Primitives_free 1 (Option.some Jvm.ClassFile.FieldType.int) :: TB
theorem v_Memory_free : y_Memory_free.cls = "ColonMachine$Memory" ∧ y_Memory_free.cls ≠ "java/lang/invoke/MethodHandle" ∧ y_Memory_free.cls ≠ "java/lang/invoke/VarHandle" ∧ (parseMethodDescriptor y_Memory_free.desc).map (fun d => d.parameters.length) = some 1 := by decide +kernel
abbrev b_Primitives_resize : ByteArray := prog_8_method_33_code
def y_Primitives_resize : MethodName := { cls := "ColonMachine$Primitives", name := "resize", desc := "()I" }
abbrev w_Primitives_resize : List Cond := .code y_Primitives_resize b_Primitives_resize 2 (Option.some Jvm.ClassFile.FieldType.int) :: TB
theorem v_Memory_resize : y_Memory_resize.cls = "ColonMachine$Memory" ∧ y_Memory_resize.cls ≠ "java/lang/invoke/MethodHandle" ∧ y_Memory_resize.cls ≠ "java/lang/invoke/VarHandle" ∧ (parseMethodDescriptor y_Memory_resize.desc).map (fun d => d.parameters.length) = some 2 := by decide +kernel
theorem d_Primitives_isToken_0 : decode b_Primitives_isToken 0 = .ok (.iload_n 0, 1) := by decide +kernel
theorem d_Primitives_isToken_1 : decode b_Primitives_isToken 1 = .ok (.sipush 1000, 3) := by decide +kernel
theorem d_Primitives_isToken_4 : decode b_Primitives_isToken 4 = .ok (.if_icmp .lt 14, 3) := by decide +kernel
theorem d_Primitives_isToken_18 : decode b_Primitives_isToken 18 = .ok (.iconst 0, 1) := by decide +kernel
theorem d_Primitives_isToken_19 : decode b_Primitives_isToken 19 = .ok (.ireturn, 1) := by decide +kernel
theorem d_Primitives_isToken_7 : decode b_Primitives_isToken 7 = .ok (.iload_n 0, 1) := by decide +kernel
theorem d_Primitives_isToken_8 : decode b_Primitives_isToken 8 = .ok (.sipush 1071, 3) := by decide +kernel
theorem d_Primitives_isToken_11 : decode b_Primitives_isToken 11 = .ok (.if_icmp .ge 7, 3) := by decide +kernel
theorem d_Primitives_isToken_14 : decode b_Primitives_isToken 14 = .ok (.iconst 1, 1) := by decide +kernel
theorem d_Primitives_isToken_15 : decode b_Primitives_isToken 15 = .ok (.goto 4, 3) := by decide +kernel
theorem d_Primitives_isForBodies_0 : decode b_Primitives_isForBodies 0 = .ok (.iload_n 0, 1) := by decide +kernel
theorem d_Primitives_isForBodies_1 : decode b_Primitives_isForBodies 1 = .ok (.bipush 40, 2) := by decide +kernel
theorem d_Primitives_isForBodies_3 : decode b_Primitives_isForBodies 3 = .ok (.if_icmp .lt 9, 3) := by decide +kernel
theorem d_Primitives_isForBodies_12 : decode b_Primitives_isForBodies 12 = .ok (.iload_n 0, 1) := by decide +kernel
theorem d_Primitives_isForBodies_13 : decode b_Primitives_isForBodies 13 = .ok (.bipush 61, 2) := by decide +kernel
theorem d_Primitives_isForBodies_15 : decode b_Primitives_isForBodies 15 = .ok (.if_icmp .lt 13, 3) := by decide +kernel
theorem d_Primitives_isForBodies_28 : decode b_Primitives_isForBodies 28 = .ok (.iconst 0, 1) := by decide +kernel
theorem d_Primitives_isForBodies_29 : decode b_Primitives_isForBodies 29 = .ok (.ireturn, 1) := by decide +kernel
theorem d_Primitives_isForBodies_18 : decode b_Primitives_isForBodies 18 = .ok (.iload_n 0, 1) := by decide +kernel
theorem d_Primitives_isForBodies_19 : decode b_Primitives_isForBodies 19 = .ok (.bipush 64, 2) := by decide +kernel
theorem d_Primitives_isForBodies_21 : decode b_Primitives_isForBodies 21 = .ok (.if_icmp .gt 7, 3) := by decide +kernel
theorem d_Primitives_isForBodies_24 : decode b_Primitives_isForBodies 24 = .ok (.iconst 1, 1) := by decide +kernel
theorem d_Primitives_isForBodies_25 : decode b_Primitives_isForBodies 25 = .ok (.goto 4, 3) := by decide +kernel
theorem d_Primitives_isForBodies_6 : decode b_Primitives_isForBodies 6 = .ok (.iload_n 0, 1) := by decide +kernel
theorem d_Primitives_isForBodies_7 : decode b_Primitives_isForBodies 7 = .ok (.bipush 42, 2) := by decide +kernel
theorem d_Primitives_isForBodies_9 : decode b_Primitives_isForBodies 9 = .ok (.if_icmp .le 15, 3) := by decide +kernel
theorem d_Primitives_ownReturnsNeeded_0 : decode b_Primitives_ownReturnsNeeded 0 = .ok (.iload_n 0, 1) := by decide +kernel
theorem d_Primitives_ownReturnsNeeded_1 : decode b_Primitives_ownReturnsNeeded 1 = .ok (.lookupswitch 57 #[(41, 51), (42, 51), (61, 53), (62, 55), (63, 53)], 51) := by decide +kernel
theorem d_Primitives_ownReturnsNeeded_52 : decode b_Primitives_ownReturnsNeeded 52 = .ok (.iconst 1, 1) := by decide +kernel
theorem d_Primitives_ownReturnsNeeded_53 : decode b_Primitives_ownReturnsNeeded 53 = .ok (.ireturn, 1) := by decide +kernel
theorem d_Primitives_ownReturnsNeeded_54 : decode b_Primitives_ownReturnsNeeded 54 = .ok (.iconst 2, 1) := by decide +kernel
theorem d_Primitives_ownReturnsNeeded_55 : decode b_Primitives_ownReturnsNeeded 55 = .ok (.ireturn, 1) := by decide +kernel
theorem d_Primitives_ownReturnsNeeded_56 : decode b_Primitives_ownReturnsNeeded 56 = .ok (.iconst 4, 1) := by decide +kernel
theorem d_Primitives_ownReturnsNeeded_57 : decode b_Primitives_ownReturnsNeeded 57 = .ok (.ireturn, 1) := by decide +kernel
theorem d_Primitives_ownReturnsNeeded_58 : decode b_Primitives_ownReturnsNeeded 58 = .ok (.iconst 0, 1) := by decide +kernel
theorem d_Primitives_ownReturnsNeeded_59 : decode b_Primitives_ownReturnsNeeded 59 = .ok (.ireturn, 1) := by decide +kernel
theorem d_Primitives_put_0 : decode b_Primitives_put 0 = .ok (.aload_n 0, 1) := by decide +kernel
theorem d_Primitives_put_1 : decode b_Primitives_put 1 = .ok (.getfield 9, 3) := by decide +kernel
theorem d_Primitives_put_4 : decode b_Primitives_put 4 = .ok (.iload_n 1, 1) := by decide +kernel
theorem d_Primitives_put_5 : decode b_Primitives_put 5 = .ok (.invokevirtual 146, 3) := by decide +kernel
theorem d_Primitives_put_8 : decode b_Primitives_put 8 = .ok (.iconst 0, 1) := by decide +kernel
theorem d_Primitives_put_9 : decode b_Primitives_put 9 = .ok (.ireturn, 1) := by decide +kernel
theorem d_Primitives_dropped_0 : decode b_Primitives_dropped 0 = .ok (.aload_n 0, 1) := by decide +kernel
theorem d_Primitives_dropped_1 : decode b_Primitives_dropped 1 = .ok (.getfield 9, 3) := by decide +kernel
theorem d_Primitives_dropped_4 : decode b_Primitives_dropped 4 = .ok (.iload_n 1, 1) := by decide +kernel
theorem d_Primitives_dropped_5 : decode b_Primitives_dropped 5 = .ok (.invokevirtual 149, 3) := by decide +kernel
theorem d_Primitives_dropped_8 : decode b_Primitives_dropped 8 = .ok (.iconst 0, 1) := by decide +kernel
theorem d_Primitives_dropped_9 : decode b_Primitives_dropped 9 = .ok (.ireturn, 1) := by decide +kernel
theorem d_Primitives_swap_0 : decode b_Primitives_swap 0 = .ok (.aload_n 0, 1) := by decide +kernel
theorem d_Primitives_swap_1 : decode b_Primitives_swap 1 = .ok (.getfield 9, 3) := by decide +kernel
theorem d_Primitives_swap_4 : decode b_Primitives_swap 4 = .ok (.iconst 0, 1) := by decide +kernel
theorem d_Primitives_swap_5 : decode b_Primitives_swap 5 = .ok (.invokevirtual 116, 3) := by decide +kernel
theorem d_Primitives_swap_8 : decode b_Primitives_swap 8 = .ok (.istore_n 1, 1) := by decide +kernel
theorem d_Primitives_swap_9 : decode b_Primitives_swap 9 = .ok (.aload_n 0, 1) := by decide +kernel
theorem d_Primitives_swap_10 : decode b_Primitives_swap 10 = .ok (.getfield 9, 3) := by decide +kernel
theorem d_Primitives_swap_13 : decode b_Primitives_swap 13 = .ok (.iconst 0, 1) := by decide +kernel
theorem d_Primitives_swap_14 : decode b_Primitives_swap 14 = .ok (.aload_n 0, 1) := by decide +kernel
theorem d_Primitives_swap_15 : decode b_Primitives_swap 15 = .ok (.getfield 9, 3) := by decide +kernel
theorem d_Primitives_swap_18 : decode b_Primitives_swap 18 = .ok (.iconst 1, 1) := by decide +kernel
theorem d_Primitives_swap_19 : decode b_Primitives_swap 19 = .ok (.invokevirtual 116, 3) := by decide +kernel
theorem d_Primitives_swap_22 : decode b_Primitives_swap 22 = .ok (.invokevirtual 152, 3) := by decide +kernel
theorem d_Primitives_swap_25 : decode b_Primitives_swap 25 = .ok (.aload_n 0, 1) := by decide +kernel
theorem d_Primitives_swap_26 : decode b_Primitives_swap 26 = .ok (.getfield 9, 3) := by decide +kernel
theorem d_Primitives_swap_29 : decode b_Primitives_swap 29 = .ok (.iconst 1, 1) := by decide +kernel
theorem d_Primitives_swap_30 : decode b_Primitives_swap 30 = .ok (.iload_n 1, 1) := by decide +kernel
theorem d_Primitives_swap_31 : decode b_Primitives_swap 31 = .ok (.invokevirtual 152, 3) := by decide +kernel
theorem d_Primitives_swap_34 : decode b_Primitives_swap 34 = .ok (.iconst 0, 1) := by decide +kernel
theorem d_Primitives_swap_35 : decode b_Primitives_swap 35 = .ok (.ireturn, 1) := by decide +kernel
theorem d_Primitives_rot_0 : decode b_Primitives_rot 0 = .ok (.aload_n 0, 1) := by decide +kernel
theorem d_Primitives_rot_1 : decode b_Primitives_rot 1 = .ok (.getfield 9, 3) := by decide +kernel
theorem d_Primitives_rot_4 : decode b_Primitives_rot 4 = .ok (.iconst 2, 1) := by decide +kernel
theorem d_Primitives_rot_5 : decode b_Primitives_rot 5 = .ok (.invokevirtual 116, 3) := by decide +kernel
theorem d_Primitives_rot_8 : decode b_Primitives_rot 8 = .ok (.istore_n 1, 1) := by decide +kernel
theorem d_Primitives_rot_9 : decode b_Primitives_rot 9 = .ok (.aload_n 0, 1) := by decide +kernel
theorem d_Primitives_rot_10 : decode b_Primitives_rot 10 = .ok (.getfield 9, 3) := by decide +kernel
theorem d_Primitives_rot_13 : decode b_Primitives_rot 13 = .ok (.iconst 2, 1) := by decide +kernel
theorem d_Primitives_rot_14 : decode b_Primitives_rot 14 = .ok (.aload_n 0, 1) := by decide +kernel
theorem d_Primitives_rot_15 : decode b_Primitives_rot 15 = .ok (.getfield 9, 3) := by decide +kernel
theorem d_Primitives_rot_18 : decode b_Primitives_rot 18 = .ok (.iconst 1, 1) := by decide +kernel
theorem d_Primitives_rot_19 : decode b_Primitives_rot 19 = .ok (.invokevirtual 116, 3) := by decide +kernel
theorem d_Primitives_rot_22 : decode b_Primitives_rot 22 = .ok (.invokevirtual 152, 3) := by decide +kernel
theorem d_Primitives_rot_25 : decode b_Primitives_rot 25 = .ok (.aload_n 0, 1) := by decide +kernel
theorem d_Primitives_rot_26 : decode b_Primitives_rot 26 = .ok (.getfield 9, 3) := by decide +kernel
theorem d_Primitives_rot_29 : decode b_Primitives_rot 29 = .ok (.iconst 1, 1) := by decide +kernel
theorem d_Primitives_rot_30 : decode b_Primitives_rot 30 = .ok (.aload_n 0, 1) := by decide +kernel
theorem d_Primitives_rot_31 : decode b_Primitives_rot 31 = .ok (.getfield 9, 3) := by decide +kernel
theorem d_Primitives_rot_34 : decode b_Primitives_rot 34 = .ok (.iconst 0, 1) := by decide +kernel
theorem d_Primitives_rot_35 : decode b_Primitives_rot 35 = .ok (.invokevirtual 116, 3) := by decide +kernel
theorem d_Primitives_rot_38 : decode b_Primitives_rot 38 = .ok (.invokevirtual 152, 3) := by decide +kernel
theorem d_Primitives_rot_41 : decode b_Primitives_rot 41 = .ok (.aload_n 0, 1) := by decide +kernel
theorem d_Primitives_rot_42 : decode b_Primitives_rot 42 = .ok (.getfield 9, 3) := by decide +kernel
theorem d_Primitives_rot_45 : decode b_Primitives_rot 45 = .ok (.iconst 0, 1) := by decide +kernel
theorem d_Primitives_rot_46 : decode b_Primitives_rot 46 = .ok (.iload_n 1, 1) := by decide +kernel
theorem d_Primitives_rot_47 : decode b_Primitives_rot 47 = .ok (.invokevirtual 152, 3) := by decide +kernel
theorem d_Primitives_rot_50 : decode b_Primitives_rot 50 = .ok (.iconst 0, 1) := by decide +kernel
theorem d_Primitives_rot_51 : decode b_Primitives_rot 51 = .ok (.ireturn, 1) := by decide +kernel
theorem d_Primitives_nip_0 : decode b_Primitives_nip 0 = .ok (.aload_n 0, 1) := by decide +kernel
theorem d_Primitives_nip_1 : decode b_Primitives_nip 1 = .ok (.getfield 9, 3) := by decide +kernel
theorem d_Primitives_nip_4 : decode b_Primitives_nip 4 = .ok (.invokevirtual 64, 3) := by decide +kernel
theorem d_Primitives_nip_7 : decode b_Primitives_nip 7 = .ok (.istore_n 1, 1) := by decide +kernel
theorem d_Primitives_nip_8 : decode b_Primitives_nip 8 = .ok (.aload_n 0, 1) := by decide +kernel
theorem d_Primitives_nip_9 : decode b_Primitives_nip 9 = .ok (.getfield 9, 3) := by decide +kernel
theorem d_Primitives_nip_12 : decode b_Primitives_nip 12 = .ok (.iconst 0, 1) := by decide +kernel
theorem d_Primitives_nip_13 : decode b_Primitives_nip 13 = .ok (.iload_n 1, 1) := by decide +kernel
theorem d_Primitives_nip_14 : decode b_Primitives_nip 14 = .ok (.invokevirtual 152, 3) := by decide +kernel
theorem d_Primitives_nip_17 : decode b_Primitives_nip 17 = .ok (.iconst 0, 1) := by decide +kernel
theorem d_Primitives_nip_18 : decode b_Primitives_nip 18 = .ok (.ireturn, 1) := by decide +kernel
theorem d_Primitives_tuck_0 : decode b_Primitives_tuck 0 = .ok (.aload_n 0, 1) := by decide +kernel
theorem d_Primitives_tuck_1 : decode b_Primitives_tuck 1 = .ok (.invokevirtual 125, 3) := by decide +kernel
theorem d_Primitives_tuck_4 : decode b_Primitives_tuck 4 = .ok (.pop, 1) := by decide +kernel
theorem d_Primitives_tuck_5 : decode b_Primitives_tuck 5 = .ok (.aload_n 0, 1) := by decide +kernel
theorem d_Primitives_tuck_6 : decode b_Primitives_tuck 6 = .ok (.aload_n 0, 1) := by decide +kernel
theorem d_Primitives_tuck_7 : decode b_Primitives_tuck 7 = .ok (.getfield 9, 3) := by decide +kernel
theorem d_Primitives_tuck_10 : decode b_Primitives_tuck 10 = .ok (.iconst 1, 1) := by decide +kernel
theorem d_Primitives_tuck_11 : decode b_Primitives_tuck 11 = .ok (.invokevirtual 116, 3) := by decide +kernel
theorem d_Primitives_tuck_14 : decode b_Primitives_tuck 14 = .ok (.invokevirtual 119, 3) := by decide +kernel
theorem d_Primitives_tuck_17 : decode b_Primitives_tuck 17 = .ok (.ireturn, 1) := by decide +kernel
theorem d_Primitives_maybeDup_0 : decode b_Primitives_maybeDup 0 = .ok (.aload_n 0, 1) := by decide +kernel
theorem d_Primitives_maybeDup_1 : decode b_Primitives_maybeDup 1 = .ok (.getfield 9, 3) := by decide +kernel
theorem d_Primitives_maybeDup_4 : decode b_Primitives_maybeDup 4 = .ok (.iconst 0, 1) := by decide +kernel
theorem d_Primitives_maybeDup_5 : decode b_Primitives_maybeDup 5 = .ok (.invokevirtual 116, 3) := by decide +kernel
theorem d_Primitives_maybeDup_8 : decode b_Primitives_maybeDup 8 = .ok (.ifCond .ne 5, 3) := by decide +kernel
theorem d_Primitives_maybeDup_13 : decode b_Primitives_maybeDup 13 = .ok (.aload_n 0, 1) := by decide +kernel
theorem d_Primitives_maybeDup_14 : decode b_Primitives_maybeDup 14 = .ok (.getfield 9, 3) := by decide +kernel
theorem d_Primitives_maybeDup_17 : decode b_Primitives_maybeDup 17 = .ok (.iconst 1, 1) := by decide +kernel
theorem d_Primitives_maybeDup_18 : decode b_Primitives_maybeDup 18 = .ok (.invokevirtual 113, 3) := by decide +kernel
theorem d_Primitives_maybeDup_21 : decode b_Primitives_maybeDup 21 = .ok (.ifCond .eq 18, 3) := by decide +kernel
theorem d_Primitives_maybeDup_39 : decode b_Primitives_maybeDup 39 = .ok (.bipush (-3), 2) := by decide +kernel
theorem d_Primitives_maybeDup_41 : decode b_Primitives_maybeDup 41 = .ok (.ireturn, 1) := by decide +kernel
theorem d_Primitives_maybeDup_24 : decode b_Primitives_maybeDup 24 = .ok (.aload_n 0, 1) := by decide +kernel
theorem d_Primitives_maybeDup_25 : decode b_Primitives_maybeDup 25 = .ok (.aload_n 0, 1) := by decide +kernel
theorem d_Primitives_maybeDup_26 : decode b_Primitives_maybeDup 26 = .ok (.getfield 9, 3) := by decide +kernel
theorem d_Primitives_maybeDup_29 : decode b_Primitives_maybeDup 29 = .ok (.iconst 0, 1) := by decide +kernel
theorem d_Primitives_maybeDup_30 : decode b_Primitives_maybeDup 30 = .ok (.invokevirtual 116, 3) := by decide +kernel
theorem d_Primitives_maybeDup_33 : decode b_Primitives_maybeDup 33 = .ok (.invokevirtual 119, 3) := by decide +kernel
theorem d_Primitives_maybeDup_36 : decode b_Primitives_maybeDup 36 = .ok (.goto 5, 3) := by decide +kernel
theorem d_Primitives_maybeDup_11 : decode b_Primitives_maybeDup 11 = .ok (.iconst 0, 1) := by decide +kernel
theorem d_Primitives_maybeDup_12 : decode b_Primitives_maybeDup 12 = .ok (.ireturn, 1) := by decide +kernel
theorem d_Primitives_pickCell_0 : decode b_Primitives_pickCell 0 = .ok (.aload_n 0, 1) := by decide +kernel
theorem d_Primitives_pickCell_1 : decode b_Primitives_pickCell 1 = .ok (.getfield 9, 3) := by decide +kernel
theorem d_Primitives_pickCell_4 : decode b_Primitives_pickCell 4 = .ok (.iconst 0, 1) := by decide +kernel
theorem d_Primitives_pickCell_5 : decode b_Primitives_pickCell 5 = .ok (.invokevirtual 116, 3) := by decide +kernel
theorem d_Primitives_pickCell_8 : decode b_Primitives_pickCell 8 = .ok (.istore_n 1, 1) := by decide +kernel
theorem d_Primitives_pickCell_9 : decode b_Primitives_pickCell 9 = .ok (.iload_n 1, 1) := by decide +kernel
theorem d_Primitives_pickCell_10 : decode b_Primitives_pickCell 10 = .ok (.ifCond .lt 16, 3) := by decide +kernel
theorem d_Primitives_pickCell_26 : decode b_Primitives_pickCell 26 = .ok (.bipush (-4), 2) := by decide +kernel
theorem d_Primitives_pickCell_28 : decode b_Primitives_pickCell 28 = .ok (.ireturn, 1) := by decide +kernel
theorem d_Primitives_pickCell_13 : decode b_Primitives_pickCell 13 = .ok (.iload_n 1, 1) := by decide +kernel
theorem d_Primitives_pickCell_14 : decode b_Primitives_pickCell 14 = .ok (.aload_n 0, 1) := by decide +kernel
theorem d_Primitives_pickCell_15 : decode b_Primitives_pickCell 15 = .ok (.getfield 9, 3) := by decide +kernel
theorem d_Primitives_pickCell_18 : decode b_Primitives_pickCell 18 = .ok (.invokevirtual 101, 3) := by decide +kernel
theorem d_Primitives_pickCell_21 : decode b_Primitives_pickCell 21 = .ok (.iconst 1, 1) := by decide +kernel
theorem d_Primitives_pickCell_22 : decode b_Primitives_pickCell 22 = .ok (.isub, 1) := by decide +kernel
theorem d_Primitives_pickCell_23 : decode b_Primitives_pickCell 23 = .ok (.if_icmp .lt 6, 3) := by decide +kernel
theorem d_Primitives_pickCell_29 : decode b_Primitives_pickCell 29 = .ok (.aload_n 0, 1) := by decide +kernel
theorem d_Primitives_pickCell_30 : decode b_Primitives_pickCell 30 = .ok (.getfield 9, 3) := by decide +kernel
theorem d_Primitives_pickCell_33 : decode b_Primitives_pickCell 33 = .ok (.iconst 0, 1) := by decide +kernel
theorem d_Primitives_pickCell_34 : decode b_Primitives_pickCell 34 = .ok (.aload_n 0, 1) := by decide +kernel
theorem d_Primitives_pickCell_35 : decode b_Primitives_pickCell 35 = .ok (.getfield 9, 3) := by decide +kernel
theorem d_Primitives_pickCell_38 : decode b_Primitives_pickCell 38 = .ok (.iload_n 1, 1) := by decide +kernel
theorem d_Primitives_pickCell_39 : decode b_Primitives_pickCell 39 = .ok (.iconst 1, 1) := by decide +kernel
theorem d_Primitives_pickCell_40 : decode b_Primitives_pickCell 40 = .ok (.iadd, 1) := by decide +kernel
theorem d_Primitives_pickCell_41 : decode b_Primitives_pickCell 41 = .ok (.invokevirtual 116, 3) := by decide +kernel
theorem d_Primitives_pickCell_44 : decode b_Primitives_pickCell 44 = .ok (.invokevirtual 152, 3) := by decide +kernel
theorem d_Primitives_pickCell_47 : decode b_Primitives_pickCell 47 = .ok (.iconst 0, 1) := by decide +kernel
theorem d_Primitives_pickCell_48 : decode b_Primitives_pickCell 48 = .ok (.ireturn, 1) := by decide +kernel
theorem d_Primitives_twoDup_0 : decode b_Primitives_twoDup 0 = .ok (.aload_n 0, 1) := by decide +kernel
theorem d_Primitives_twoDup_1 : decode b_Primitives_twoDup 1 = .ok (.aload_n 0, 1) := by decide +kernel
theorem d_Primitives_twoDup_2 : decode b_Primitives_twoDup 2 = .ok (.getfield 9, 3) := by decide +kernel
theorem d_Primitives_twoDup_5 : decode b_Primitives_twoDup 5 = .ok (.iconst 1, 1) := by decide +kernel
theorem d_Primitives_twoDup_6 : decode b_Primitives_twoDup 6 = .ok (.invokevirtual 116, 3) := by decide +kernel
theorem d_Primitives_twoDup_9 : decode b_Primitives_twoDup 9 = .ok (.invokevirtual 119, 3) := by decide +kernel
theorem d_Primitives_twoDup_12 : decode b_Primitives_twoDup 12 = .ok (.pop, 1) := by decide +kernel
theorem d_Primitives_twoDup_13 : decode b_Primitives_twoDup 13 = .ok (.aload_n 0, 1) := by decide +kernel
theorem d_Primitives_twoDup_14 : decode b_Primitives_twoDup 14 = .ok (.aload_n 0, 1) := by decide +kernel
theorem d_Primitives_twoDup_15 : decode b_Primitives_twoDup 15 = .ok (.getfield 9, 3) := by decide +kernel
theorem d_Primitives_twoDup_18 : decode b_Primitives_twoDup 18 = .ok (.iconst 1, 1) := by decide +kernel
theorem d_Primitives_twoDup_19 : decode b_Primitives_twoDup 19 = .ok (.invokevirtual 116, 3) := by decide +kernel
theorem d_Primitives_twoDup_22 : decode b_Primitives_twoDup 22 = .ok (.invokevirtual 119, 3) := by decide +kernel
theorem d_Primitives_twoDup_25 : decode b_Primitives_twoDup 25 = .ok (.ireturn, 1) := by decide +kernel
theorem d_Primitives_shuffle_0 : decode b_Primitives_shuffle 0 = .ok (.iload_n 1, 1) := by decide +kernel
theorem d_Primitives_shuffle_1 : decode b_Primitives_shuffle 1 = .ok (.tableswitch 138 0 10 #[59, 72, 78, 83, 96, 101, 106, 111, 116, 121, 133], 59) := by decide +kernel
theorem d_Primitives_shuffle_60 : decode b_Primitives_shuffle 60 = .ok (.aload_n 0, 1) := by decide +kernel
theorem d_Primitives_shuffle_61 : decode b_Primitives_shuffle 61 = .ok (.aload_n 0, 1) := by decide +kernel
theorem d_Primitives_shuffle_62 : decode b_Primitives_shuffle 62 = .ok (.getfield 9, 3) := by decide +kernel
theorem d_Primitives_shuffle_65 : decode b_Primitives_shuffle 65 = .ok (.iconst 0, 1) := by decide +kernel
theorem d_Primitives_shuffle_66 : decode b_Primitives_shuffle 66 = .ok (.invokevirtual 116, 3) := by decide +kernel
theorem d_Primitives_shuffle_69 : decode b_Primitives_shuffle 69 = .ok (.invokevirtual 119, 3) := by decide +kernel
theorem d_Primitives_shuffle_72 : decode b_Primitives_shuffle 72 = .ok (.ireturn, 1) := by decide +kernel
theorem d_Primitives_shuffle_73 : decode b_Primitives_shuffle 73 = .ok (.aload_n 0, 1) := by decide +kernel
theorem d_Primitives_shuffle_74 : decode b_Primitives_shuffle 74 = .ok (.iconst 1, 1) := by decide +kernel
theorem d_Primitives_shuffle_75 : decode b_Primitives_shuffle 75 = .ok (.invokevirtual 122, 3) := by decide +kernel
theorem d_Primitives_shuffle_78 : decode b_Primitives_shuffle 78 = .ok (.ireturn, 1) := by decide +kernel
theorem d_Primitives_shuffle_79 : decode b_Primitives_shuffle 79 = .ok (.aload_n 0, 1) := by decide +kernel
theorem d_Primitives_shuffle_80 : decode b_Primitives_shuffle 80 = .ok (.invokevirtual 125, 3) := by decide +kernel
theorem d_Primitives_shuffle_83 : decode b_Primitives_shuffle 83 = .ok (.ireturn, 1) := by decide +kernel
theorem d_Primitives_shuffle_84 : decode b_Primitives_shuffle 84 = .ok (.aload_n 0, 1) := by decide +kernel
theorem d_Primitives_shuffle_85 : decode b_Primitives_shuffle 85 = .ok (.aload_n 0, 1) := by decide +kernel
theorem d_Primitives_shuffle_86 : decode b_Primitives_shuffle 86 = .ok (.getfield 9, 3) := by decide +kernel
theorem d_Primitives_shuffle_89 : decode b_Primitives_shuffle 89 = .ok (.iconst 1, 1) := by decide +kernel
theorem d_Primitives_shuffle_90 : decode b_Primitives_shuffle 90 = .ok (.invokevirtual 116, 3) := by decide +kernel
theorem d_Primitives_shuffle_93 : decode b_Primitives_shuffle 93 = .ok (.invokevirtual 119, 3) := by decide +kernel
theorem d_Primitives_shuffle_96 : decode b_Primitives_shuffle 96 = .ok (.ireturn, 1) := by decide +kernel
theorem d_Primitives_shuffle_97 : decode b_Primitives_shuffle 97 = .ok (.aload_n 0, 1) := by decide +kernel
theorem d_Primitives_shuffle_98 : decode b_Primitives_shuffle 98 = .ok (.invokevirtual 128, 3) := by decide +kernel
theorem d_Primitives_shuffle_101 : decode b_Primitives_shuffle 101 = .ok (.ireturn, 1) := by decide +kernel
theorem d_Primitives_shuffle_102 : decode b_Primitives_shuffle 102 = .ok (.aload_n 0, 1) := by decide +kernel
theorem d_Primitives_shuffle_103 : decode b_Primitives_shuffle 103 = .ok (.invokevirtual 131, 3) := by decide +kernel
theorem d_Primitives_shuffle_106 : decode b_Primitives_shuffle 106 = .ok (.ireturn, 1) := by decide +kernel
theorem d_Primitives_shuffle_107 : decode b_Primitives_shuffle 107 = .ok (.aload_n 0, 1) := by decide +kernel
theorem d_Primitives_shuffle_108 : decode b_Primitives_shuffle 108 = .ok (.invokevirtual 134, 3) := by decide +kernel
theorem d_Primitives_shuffle_111 : decode b_Primitives_shuffle 111 = .ok (.ireturn, 1) := by decide +kernel
theorem d_Primitives_shuffle_112 : decode b_Primitives_shuffle 112 = .ok (.aload_n 0, 1) := by decide +kernel
theorem d_Primitives_shuffle_113 : decode b_Primitives_shuffle 113 = .ok (.invokevirtual 137, 3) := by decide +kernel
theorem d_Primitives_shuffle_116 : decode b_Primitives_shuffle 116 = .ok (.ireturn, 1) := by decide +kernel
theorem d_Primitives_shuffle_117 : decode b_Primitives_shuffle 117 = .ok (.aload_n 0, 1) := by decide +kernel
theorem d_Primitives_shuffle_118 : decode b_Primitives_shuffle 118 = .ok (.invokevirtual 140, 3) := by decide +kernel
theorem d_Primitives_shuffle_121 : decode b_Primitives_shuffle 121 = .ok (.ireturn, 1) := by decide +kernel
theorem d_Primitives_shuffle_122 : decode b_Primitives_shuffle 122 = .ok (.aload_n 0, 1) := by decide +kernel
theorem d_Primitives_shuffle_123 : decode b_Primitives_shuffle 123 = .ok (.aload_n 0, 1) := by decide +kernel
theorem d_Primitives_shuffle_124 : decode b_Primitives_shuffle 124 = .ok (.getfield 9, 3) := by decide +kernel
theorem d_Primitives_shuffle_127 : decode b_Primitives_shuffle 127 = .ok (.invokevirtual 101, 3) := by decide +kernel
theorem d_Primitives_shuffle_130 : decode b_Primitives_shuffle 130 = .ok (.invokevirtual 119, 3) := by decide +kernel
theorem d_Primitives_shuffle_133 : decode b_Primitives_shuffle 133 = .ok (.ireturn, 1) := by decide +kernel
theorem d_Primitives_shuffle_134 : decode b_Primitives_shuffle 134 = .ok (.aload_n 0, 1) := by decide +kernel
theorem d_Primitives_shuffle_135 : decode b_Primitives_shuffle 135 = .ok (.invokevirtual 143, 3) := by decide +kernel
theorem d_Primitives_shuffle_138 : decode b_Primitives_shuffle 138 = .ok (.ireturn, 1) := by decide +kernel
theorem d_Primitives_shuffle_139 : decode b_Primitives_shuffle 139 = .ok (.aload_n 0, 1) := by decide +kernel
theorem d_Primitives_shuffle_140 : decode b_Primitives_shuffle 140 = .ok (.iconst 2, 1) := by decide +kernel
theorem d_Primitives_shuffle_141 : decode b_Primitives_shuffle 141 = .ok (.invokevirtual 122, 3) := by decide +kernel
theorem d_Primitives_shuffle_144 : decode b_Primitives_shuffle 144 = .ok (.ireturn, 1) := by decide +kernel
theorem d_Primitives_flag_0 : decode b_Primitives_flag 0 = .ok (.iload_n 0, 1) := by decide +kernel
theorem d_Primitives_flag_1 : decode b_Primitives_flag 1 = .ok (.ifCond .eq 7, 3) := by decide +kernel
theorem d_Primitives_flag_8 : decode b_Primitives_flag 8 = .ok (.iconst 0, 1) := by decide +kernel
theorem d_Primitives_flag_9 : decode b_Primitives_flag 9 = .ok (.ireturn, 1) := by decide +kernel
theorem d_Primitives_flag_4 : decode b_Primitives_flag 4 = .ok (.iconst (-1), 1) := by decide +kernel
theorem d_Primitives_flag_5 : decode b_Primitives_flag 5 = .ok (.goto 4, 3) := by decide +kernel
theorem d_Primitives_ofOne_0 : decode b_Primitives_ofOne 0 = .ok (.iload_n 0, 1) := by decide +kernel
theorem d_Primitives_ofOne_1 : decode b_Primitives_ofOne 1 = .ok (.tableswitch 142 19 38 #[95, 98, 142, 142, 109, 113, 117, 121, 142, 142, 142, 125, 142, 142, 142, 142, 142, 142, 142, 129], 95) := by decide +kernel
theorem d_Primitives_ofOne_96 : decode b_Primitives_ofOne 96 = .ok (.iload_n 1, 1) := by decide +kernel
theorem d_Primitives_ofOne_97 : decode b_Primitives_ofOne 97 = .ok (.ineg, 1) := by decide +kernel
theorem d_Primitives_ofOne_98 : decode b_Primitives_ofOne 98 = .ok (.ireturn, 1) := by decide +kernel
theorem d_Primitives_ofOne_99 : decode b_Primitives_ofOne 99 = .ok (.iload_n 1, 1) := by decide +kernel
theorem d_Primitives_ofOne_100 : decode b_Primitives_ofOne 100 = .ok (.ifCond .ge 8, 3) := by decide +kernel
theorem d_Primitives_ofOne_108 : decode b_Primitives_ofOne 108 = .ok (.iload_n 1, 1) := by decide +kernel
theorem d_Primitives_ofOne_109 : decode b_Primitives_ofOne 109 = .ok (.ireturn, 1) := by decide +kernel
theorem d_Primitives_ofOne_103 : decode b_Primitives_ofOne 103 = .ok (.iload_n 1, 1) := by decide +kernel
theorem d_Primitives_ofOne_104 : decode b_Primitives_ofOne 104 = .ok (.ineg, 1) := by decide +kernel
theorem d_Primitives_ofOne_105 : decode b_Primitives_ofOne 105 = .ok (.goto 4, 3) := by decide +kernel
theorem d_Primitives_ofOne_110 : decode b_Primitives_ofOne 110 = .ok (.iload_n 1, 1) := by decide +kernel
theorem d_Primitives_ofOne_111 : decode b_Primitives_ofOne 111 = .ok (.iconst 1, 1) := by decide +kernel
theorem d_Primitives_ofOne_112 : decode b_Primitives_ofOne 112 = .ok (.iadd, 1) := by decide +kernel
theorem d_Primitives_ofOne_113 : decode b_Primitives_ofOne 113 = .ok (.ireturn, 1) := by decide +kernel
theorem d_Primitives_ofOne_114 : decode b_Primitives_ofOne 114 = .ok (.iload_n 1, 1) := by decide +kernel
theorem d_Primitives_ofOne_115 : decode b_Primitives_ofOne 115 = .ok (.iconst 1, 1) := by decide +kernel
theorem d_Primitives_ofOne_116 : decode b_Primitives_ofOne 116 = .ok (.isub, 1) := by decide +kernel
theorem d_Primitives_ofOne_117 : decode b_Primitives_ofOne 117 = .ok (.ireturn, 1) := by decide +kernel
theorem d_Primitives_ofOne_118 : decode b_Primitives_ofOne 118 = .ok (.iload_n 1, 1) := by decide +kernel
theorem d_Primitives_ofOne_119 : decode b_Primitives_ofOne 119 = .ok (.iconst 1, 1) := by decide +kernel
theorem d_Primitives_ofOne_120 : decode b_Primitives_ofOne 120 = .ok (.ishl, 1) := by decide +kernel
theorem d_Primitives_ofOne_121 : decode b_Primitives_ofOne 121 = .ok (.ireturn, 1) := by decide +kernel
theorem d_Primitives_ofOne_122 : decode b_Primitives_ofOne 122 = .ok (.iload_n 1, 1) := by decide +kernel
theorem d_Primitives_ofOne_123 : decode b_Primitives_ofOne 123 = .ok (.iconst 1, 1) := by decide +kernel
theorem d_Primitives_ofOne_124 : decode b_Primitives_ofOne 124 = .ok (.ishr, 1) := by decide +kernel
theorem d_Primitives_ofOne_125 : decode b_Primitives_ofOne 125 = .ok (.ireturn, 1) := by decide +kernel
theorem d_Primitives_ofOne_126 : decode b_Primitives_ofOne 126 = .ok (.iload_n 1, 1) := by decide +kernel
theorem d_Primitives_ofOne_127 : decode b_Primitives_ofOne 127 = .ok (.iconst (-1), 1) := by decide +kernel
theorem d_Primitives_ofOne_128 : decode b_Primitives_ofOne 128 = .ok (.ixor, 1) := by decide +kernel
theorem d_Primitives_ofOne_129 : decode b_Primitives_ofOne 129 = .ok (.ireturn, 1) := by decide +kernel
theorem d_Primitives_ofOne_130 : decode b_Primitives_ofOne 130 = .ok (.iload_n 1, 1) := by decide +kernel
theorem d_Primitives_ofOne_131 : decode b_Primitives_ofOne 131 = .ok (.ifCond .ne 7, 3) := by decide +kernel
theorem d_Primitives_ofOne_138 : decode b_Primitives_ofOne 138 = .ok (.iconst 0, 1) := by decide +kernel
theorem d_Primitives_ofOne_139 : decode b_Primitives_ofOne 139 = .ok (.invokestatic 175, 3) := by decide +kernel
theorem d_Primitives_ofOne_142 : decode b_Primitives_ofOne 142 = .ok (.ireturn, 1) := by decide +kernel
theorem d_Primitives_ofOne_134 : decode b_Primitives_ofOne 134 = .ok (.iconst 1, 1) := by decide +kernel
theorem d_Primitives_ofOne_135 : decode b_Primitives_ofOne 135 = .ok (.goto 4, 3) := by decide +kernel
theorem d_Primitives_ofOne_143 : decode b_Primitives_ofOne 143 = .ok (.iload_n 1, 1) := by decide +kernel
theorem d_Primitives_ofOne_144 : decode b_Primitives_ofOne 144 = .ok (.ifCond .ge 7, 3) := by decide +kernel
theorem d_Primitives_ofOne_151 : decode b_Primitives_ofOne 151 = .ok (.iconst 0, 1) := by decide +kernel
theorem d_Primitives_ofOne_152 : decode b_Primitives_ofOne 152 = .ok (.invokestatic 175, 3) := by decide +kernel
theorem d_Primitives_ofOne_155 : decode b_Primitives_ofOne 155 = .ok (.ireturn, 1) := by decide +kernel
theorem d_Primitives_ofOne_147 : decode b_Primitives_ofOne 147 = .ok (.iconst 1, 1) := by decide +kernel
theorem d_Primitives_ofOne_148 : decode b_Primitives_ofOne 148 = .ok (.goto 4, 3) := by decide +kernel
theorem d_Primitives_ofTwo_0 : decode b_Primitives_ofTwo 0 = .ok (.iload_n 0, 1) := by decide +kernel
theorem d_Primitives_ofTwo_1 : decode b_Primitives_ofTwo 1 = .ok (.tableswitch 159 12 31 #[95, 99, 103, 159, 159, 159, 159, 159, 159, 107, 118, 159, 159, 159, 159, 129, 133, 137, 159, 141], 95) := by decide +kernel
theorem d_Primitives_ofTwo_96 : decode b_Primitives_ofTwo 96 = .ok (.iload_n 1, 1) := by decide +kernel
theorem d_Primitives_ofTwo_97 : decode b_Primitives_ofTwo 97 = .ok (.iload_n 2, 1) := by decide +kernel
theorem d_Primitives_ofTwo_98 : decode b_Primitives_ofTwo 98 = .ok (.iadd, 1) := by decide +kernel
theorem d_Primitives_ofTwo_99 : decode b_Primitives_ofTwo 99 = .ok (.ireturn, 1) := by decide +kernel
theorem d_Primitives_ofTwo_100 : decode b_Primitives_ofTwo 100 = .ok (.iload_n 1, 1) := by decide +kernel
theorem d_Primitives_ofTwo_101 : decode b_Primitives_ofTwo 101 = .ok (.iload_n 2, 1) := by decide +kernel
theorem d_Primitives_ofTwo_102 : decode b_Primitives_ofTwo 102 = .ok (.isub, 1) := by decide +kernel
theorem d_Primitives_ofTwo_103 : decode b_Primitives_ofTwo 103 = .ok (.ireturn, 1) := by decide +kernel
theorem d_Primitives_ofTwo_104 : decode b_Primitives_ofTwo 104 = .ok (.iload_n 1, 1) := by decide +kernel
theorem d_Primitives_ofTwo_105 : decode b_Primitives_ofTwo 105 = .ok (.iload_n 2, 1) := by decide +kernel
theorem d_Primitives_ofTwo_106 : decode b_Primitives_ofTwo 106 = .ok (.imul, 1) := by decide +kernel
theorem d_Primitives_ofTwo_107 : decode b_Primitives_ofTwo 107 = .ok (.ireturn, 1) := by decide +kernel
theorem d_Primitives_ofTwo_108 : decode b_Primitives_ofTwo 108 = .ok (.iload_n 1, 1) := by decide +kernel
theorem d_Primitives_ofTwo_109 : decode b_Primitives_ofTwo 109 = .ok (.iload_n 2, 1) := by decide +kernel
theorem d_Primitives_ofTwo_110 : decode b_Primitives_ofTwo 110 = .ok (.if_icmp .ge 7, 3) := by decide +kernel
theorem d_Primitives_ofTwo_117 : decode b_Primitives_ofTwo 117 = .ok (.iload_n 2, 1) := by decide +kernel
theorem d_Primitives_ofTwo_118 : decode b_Primitives_ofTwo 118 = .ok (.ireturn, 1) := by decide +kernel
theorem d_Primitives_ofTwo_113 : decode b_Primitives_ofTwo 113 = .ok (.iload_n 1, 1) := by decide +kernel
theorem d_Primitives_ofTwo_114 : decode b_Primitives_ofTwo 114 = .ok (.goto 4, 3) := by decide +kernel
theorem d_Primitives_ofTwo_119 : decode b_Primitives_ofTwo 119 = .ok (.iload_n 1, 1) := by decide +kernel
theorem d_Primitives_ofTwo_120 : decode b_Primitives_ofTwo 120 = .ok (.iload_n 2, 1) := by decide +kernel
theorem d_Primitives_ofTwo_121 : decode b_Primitives_ofTwo 121 = .ok (.if_icmp .le 7, 3) := by decide +kernel
theorem d_Primitives_ofTwo_128 : decode b_Primitives_ofTwo 128 = .ok (.iload_n 2, 1) := by decide +kernel
theorem d_Primitives_ofTwo_129 : decode b_Primitives_ofTwo 129 = .ok (.ireturn, 1) := by decide +kernel
theorem d_Primitives_ofTwo_124 : decode b_Primitives_ofTwo 124 = .ok (.iload_n 1, 1) := by decide +kernel
theorem d_Primitives_ofTwo_125 : decode b_Primitives_ofTwo 125 = .ok (.goto 4, 3) := by decide +kernel
theorem d_Primitives_ofTwo_130 : decode b_Primitives_ofTwo 130 = .ok (.iload_n 1, 1) := by decide +kernel
theorem d_Primitives_ofTwo_131 : decode b_Primitives_ofTwo 131 = .ok (.iload_n 2, 1) := by decide +kernel
theorem d_Primitives_ofTwo_132 : decode b_Primitives_ofTwo 132 = .ok (.iand, 1) := by decide +kernel
theorem d_Primitives_ofTwo_133 : decode b_Primitives_ofTwo 133 = .ok (.ireturn, 1) := by decide +kernel
theorem d_Primitives_ofTwo_134 : decode b_Primitives_ofTwo 134 = .ok (.iload_n 1, 1) := by decide +kernel
theorem d_Primitives_ofTwo_135 : decode b_Primitives_ofTwo 135 = .ok (.iload_n 2, 1) := by decide +kernel
theorem d_Primitives_ofTwo_136 : decode b_Primitives_ofTwo 136 = .ok (.ior, 1) := by decide +kernel
theorem d_Primitives_ofTwo_137 : decode b_Primitives_ofTwo 137 = .ok (.ireturn, 1) := by decide +kernel
theorem d_Primitives_ofTwo_138 : decode b_Primitives_ofTwo 138 = .ok (.iload_n 1, 1) := by decide +kernel
theorem d_Primitives_ofTwo_139 : decode b_Primitives_ofTwo 139 = .ok (.iload_n 2, 1) := by decide +kernel
theorem d_Primitives_ofTwo_140 : decode b_Primitives_ofTwo 140 = .ok (.ixor, 1) := by decide +kernel
theorem d_Primitives_ofTwo_141 : decode b_Primitives_ofTwo 141 = .ok (.ireturn, 1) := by decide +kernel
theorem d_Primitives_ofTwo_142 : decode b_Primitives_ofTwo 142 = .ok (.iload_n 2, 1) := by decide +kernel
theorem d_Primitives_ofTwo_143 : decode b_Primitives_ofTwo 143 = .ok (.ifCond .lt 9, 3) := by decide +kernel
theorem d_Primitives_ofTwo_152 : decode b_Primitives_ofTwo 152 = .ok (.iconst 0, 1) := by decide +kernel
theorem d_Primitives_ofTwo_153 : decode b_Primitives_ofTwo 153 = .ok (.goto 6, 3) := by decide +kernel
theorem d_Primitives_ofTwo_159 : decode b_Primitives_ofTwo 159 = .ok (.ireturn, 1) := by decide +kernel
theorem d_Primitives_ofTwo_146 : decode b_Primitives_ofTwo 146 = .ok (.iload_n 2, 1) := by decide +kernel
theorem d_Primitives_ofTwo_147 : decode b_Primitives_ofTwo 147 = .ok (.bipush 31, 2) := by decide +kernel
theorem d_Primitives_ofTwo_149 : decode b_Primitives_ofTwo 149 = .ok (.if_icmp .le 7, 3) := by decide +kernel
theorem d_Primitives_ofTwo_156 : decode b_Primitives_ofTwo 156 = .ok (.iload_n 1, 1) := by decide +kernel
theorem d_Primitives_ofTwo_157 : decode b_Primitives_ofTwo 157 = .ok (.iload_n 2, 1) := by decide +kernel
theorem d_Primitives_ofTwo_158 : decode b_Primitives_ofTwo 158 = .ok (.ishl, 1) := by decide +kernel
theorem d_Primitives_ofTwo_160 : decode b_Primitives_ofTwo 160 = .ok (.iload_n 2, 1) := by decide +kernel
theorem d_Primitives_ofTwo_161 : decode b_Primitives_ofTwo 161 = .ok (.ifCond .lt 9, 3) := by decide +kernel
theorem d_Primitives_ofTwo_170 : decode b_Primitives_ofTwo 170 = .ok (.iconst 0, 1) := by decide +kernel
theorem d_Primitives_ofTwo_171 : decode b_Primitives_ofTwo 171 = .ok (.goto 6, 3) := by decide +kernel
theorem d_Primitives_ofTwo_177 : decode b_Primitives_ofTwo 177 = .ok (.ireturn, 1) := by decide +kernel
theorem d_Primitives_ofTwo_164 : decode b_Primitives_ofTwo 164 = .ok (.iload_n 2, 1) := by decide +kernel
theorem d_Primitives_ofTwo_165 : decode b_Primitives_ofTwo 165 = .ok (.bipush 31, 2) := by decide +kernel
theorem d_Primitives_ofTwo_167 : decode b_Primitives_ofTwo 167 = .ok (.if_icmp .le 7, 3) := by decide +kernel
theorem d_Primitives_ofTwo_174 : decode b_Primitives_ofTwo 174 = .ok (.iload_n 1, 1) := by decide +kernel
theorem d_Primitives_ofTwo_175 : decode b_Primitives_ofTwo 175 = .ok (.iload_n 2, 1) := by decide +kernel
theorem d_Primitives_ofTwo_176 : decode b_Primitives_ofTwo 176 = .ok (.iushr, 1) := by decide +kernel
theorem d_Primitives_useReturns_0 : decode b_Primitives_useReturns 0 = .ok (.iload_n 1, 1) := by decide +kernel
theorem d_Primitives_useReturns_1 : decode b_Primitives_useReturns 1 = .ok (.lookupswitch 123 #[(40, 59), (41, 75), (42, 87), (61, 87), (62, 100), (63, 113)], 59) := by decide +kernel
theorem d_Primitives_useReturns_60 : decode b_Primitives_useReturns 60 = .ok (.aload_n 0, 1) := by decide +kernel
theorem d_Primitives_useReturns_61 : decode b_Primitives_useReturns 61 = .ok (.getfield 15, 3) := by decide +kernel
theorem d_Primitives_useReturns_64 : decode b_Primitives_useReturns 64 = .ok (.aload_n 0, 1) := by decide +kernel
theorem d_Primitives_useReturns_65 : decode b_Primitives_useReturns 65 = .ok (.getfield 9, 3) := by decide +kernel
theorem d_Primitives_useReturns_68 : decode b_Primitives_useReturns 68 = .ok (.invokevirtual 64, 3) := by decide +kernel
theorem d_Primitives_useReturns_71 : decode b_Primitives_useReturns 71 = .ok (.invokevirtual 146, 3) := by decide +kernel
theorem d_Primitives_useReturns_74 : decode b_Primitives_useReturns 74 = .ok (.iconst 0, 1) := by decide +kernel
theorem d_Primitives_useReturns_75 : decode b_Primitives_useReturns 75 = .ok (.ireturn, 1) := by decide +kernel
theorem d_Primitives_useReturns_76 : decode b_Primitives_useReturns 76 = .ok (.aload_n 0, 1) := by decide +kernel
theorem d_Primitives_useReturns_77 : decode b_Primitives_useReturns 77 = .ok (.aload_n 0, 1) := by decide +kernel
theorem d_Primitives_useReturns_78 : decode b_Primitives_useReturns 78 = .ok (.getfield 15, 3) := by decide +kernel
theorem d_Primitives_useReturns_81 : decode b_Primitives_useReturns 81 = .ok (.invokevirtual 64, 3) := by decide +kernel
theorem d_Primitives_useReturns_84 : decode b_Primitives_useReturns 84 = .ok (.invokevirtual 119, 3) := by decide +kernel
theorem d_Primitives_useReturns_87 : decode b_Primitives_useReturns 87 = .ok (.ireturn, 1) := by decide +kernel
theorem d_Primitives_useReturns_88 : decode b_Primitives_useReturns 88 = .ok (.aload_n 0, 1) := by decide +kernel
theorem d_Primitives_useReturns_89 : decode b_Primitives_useReturns 89 = .ok (.aload_n 0, 1) := by decide +kernel
theorem d_Primitives_useReturns_90 : decode b_Primitives_useReturns 90 = .ok (.getfield 15, 3) := by decide +kernel
theorem d_Primitives_useReturns_93 : decode b_Primitives_useReturns 93 = .ok (.iconst 0, 1) := by decide +kernel
theorem d_Primitives_useReturns_94 : decode b_Primitives_useReturns 94 = .ok (.invokevirtual 116, 3) := by decide +kernel
theorem d_Primitives_useReturns_97 : decode b_Primitives_useReturns 97 = .ok (.invokevirtual 119, 3) := by decide +kernel
theorem d_Primitives_useReturns_100 : decode b_Primitives_useReturns 100 = .ok (.ireturn, 1) := by decide +kernel
theorem d_Primitives_useReturns_101 : decode b_Primitives_useReturns 101 = .ok (.aload_n 0, 1) := by decide +kernel
theorem d_Primitives_useReturns_102 : decode b_Primitives_useReturns 102 = .ok (.aload_n 0, 1) := by decide +kernel
theorem d_Primitives_useReturns_103 : decode b_Primitives_useReturns 103 = .ok (.getfield 15, 3) := by decide +kernel
theorem d_Primitives_useReturns_106 : decode b_Primitives_useReturns 106 = .ok (.iconst 2, 1) := by decide +kernel
theorem d_Primitives_useReturns_107 : decode b_Primitives_useReturns 107 = .ok (.invokevirtual 116, 3) := by decide +kernel
theorem d_Primitives_useReturns_110 : decode b_Primitives_useReturns 110 = .ok (.invokevirtual 119, 3) := by decide +kernel
theorem d_Primitives_useReturns_113 : decode b_Primitives_useReturns 113 = .ok (.ireturn, 1) := by decide +kernel
theorem d_Primitives_useReturns_114 : decode b_Primitives_useReturns 114 = .ok (.aload_n 0, 1) := by decide +kernel
theorem d_Primitives_useReturns_115 : decode b_Primitives_useReturns 115 = .ok (.getfield 15, 3) := by decide +kernel
theorem d_Primitives_useReturns_118 : decode b_Primitives_useReturns 118 = .ok (.iconst 2, 1) := by decide +kernel
theorem d_Primitives_useReturns_119 : decode b_Primitives_useReturns 119 = .ok (.invokevirtual 149, 3) := by decide +kernel
theorem d_Primitives_useReturns_122 : decode b_Primitives_useReturns 122 = .ok (.iconst 0, 1) := by decide +kernel
theorem d_Primitives_useReturns_123 : decode b_Primitives_useReturns 123 = .ok (.ireturn, 1) := by decide +kernel
theorem d_Primitives_useReturns_124 : decode b_Primitives_useReturns 124 = .ok (.aload_n 0, 1) := by decide +kernel
theorem d_Primitives_useReturns_125 : decode b_Primitives_useReturns 125 = .ok (.getfield 18, 3) := by decide +kernel
theorem d_Primitives_useReturns_128 : decode b_Primitives_useReturns 128 = .ok (.invokevirtual 188, 3) := by decide +kernel
theorem d_Primitives_useReturns_131 : decode b_Primitives_useReturns 131 = .ok (.iconst 0, 1) := by decide +kernel
theorem d_Primitives_useReturns_132 : decode b_Primitives_useReturns 132 = .ok (.ireturn, 1) := by decide +kernel
theorem d_Primitives_read_0 : decode b_Primitives_read 0 = .ok (.aload_n 0, 1) := by decide +kernel
theorem d_Primitives_read_1 : decode b_Primitives_read 1 = .ok (.getfield 22, 3) := by decide +kernel
theorem d_Primitives_read_4 : decode b_Primitives_read 4 = .ok (.aload_n 0, 1) := by decide +kernel
theorem d_Primitives_read_5 : decode b_Primitives_read 5 = .ok (.getfield 9, 3) := by decide +kernel
theorem d_Primitives_read_8 : decode b_Primitives_read 8 = .ok (.iconst 0, 1) := by decide +kernel
theorem d_Primitives_read_9 : decode b_Primitives_read 9 = .ok (.invokevirtual 116, 3) := by decide +kernel
theorem d_Primitives_read_12 : decode b_Primitives_read 12 = .ok (.invokevirtual 210, 3) := by decide +kernel
theorem d_Primitives_read_15 : decode b_Primitives_read 15 = .ok (.ifCond .ne 6, 3) := by decide +kernel
theorem d_Primitives_read_21 : decode b_Primitives_read 21 = .ok (.aload_n 0, 1) := by decide +kernel
theorem d_Primitives_read_22 : decode b_Primitives_read 22 = .ok (.getfield 9, 3) := by decide +kernel
theorem d_Primitives_read_25 : decode b_Primitives_read 25 = .ok (.iconst 0, 1) := by decide +kernel
theorem d_Primitives_read_26 : decode b_Primitives_read 26 = .ok (.aload_n 0, 1) := by decide +kernel
theorem d_Primitives_read_27 : decode b_Primitives_read 27 = .ok (.getfield 22, 3) := by decide +kernel
theorem d_Primitives_read_30 : decode b_Primitives_read 30 = .ok (.aload_n 0, 1) := by decide +kernel
theorem d_Primitives_read_31 : decode b_Primitives_read 31 = .ok (.getfield 9, 3) := by decide +kernel
theorem d_Primitives_read_34 : decode b_Primitives_read 34 = .ok (.iconst 0, 1) := by decide +kernel
theorem d_Primitives_read_35 : decode b_Primitives_read 35 = .ok (.invokevirtual 116, 3) := by decide +kernel
theorem d_Primitives_read_38 : decode b_Primitives_read 38 = .ok (.invokevirtual 197, 3) := by decide +kernel
theorem d_Primitives_read_41 : decode b_Primitives_read 41 = .ok (.invokevirtual 152, 3) := by decide +kernel
theorem d_Primitives_read_44 : decode b_Primitives_read 44 = .ok (.iconst 0, 1) := by decide +kernel
theorem d_Primitives_read_45 : decode b_Primitives_read 45 = .ok (.ireturn, 1) := by decide +kernel
theorem d_Primitives_read_18 : decode b_Primitives_read 18 = .ok (.bipush (-9), 2) := by decide +kernel
theorem d_Primitives_read_20 : decode b_Primitives_read 20 = .ok (.ireturn, 1) := by decide +kernel
theorem d_Primitives_write_0 : decode b_Primitives_write 0 = .ok (.aload_n 0, 1) := by decide +kernel
theorem d_Primitives_write_1 : decode b_Primitives_write 1 = .ok (.getfield 22, 3) := by decide +kernel
theorem d_Primitives_write_4 : decode b_Primitives_write 4 = .ok (.aload_n 0, 1) := by decide +kernel
theorem d_Primitives_write_5 : decode b_Primitives_write 5 = .ok (.getfield 9, 3) := by decide +kernel
theorem d_Primitives_write_8 : decode b_Primitives_write 8 = .ok (.iconst 0, 1) := by decide +kernel
theorem d_Primitives_write_9 : decode b_Primitives_write 9 = .ok (.invokevirtual 116, 3) := by decide +kernel
theorem d_Primitives_write_12 : decode b_Primitives_write 12 = .ok (.invokevirtual 210, 3) := by decide +kernel
theorem d_Primitives_write_15 : decode b_Primitives_write 15 = .ok (.ifCond .ne 6, 3) := by decide +kernel
theorem d_Primitives_write_21 : decode b_Primitives_write 21 = .ok (.aload_n 0, 1) := by decide +kernel
theorem d_Primitives_write_22 : decode b_Primitives_write 22 = .ok (.getfield 9, 3) := by decide +kernel
theorem d_Primitives_write_25 : decode b_Primitives_write 25 = .ok (.invokevirtual 64, 3) := by decide +kernel
theorem d_Primitives_write_28 : decode b_Primitives_write 28 = .ok (.istore_n 2, 1) := by decide +kernel
theorem d_Primitives_write_29 : decode b_Primitives_write 29 = .ok (.aload_n 0, 1) := by decide +kernel
theorem d_Primitives_write_30 : decode b_Primitives_write 30 = .ok (.getfield 22, 3) := by decide +kernel
theorem d_Primitives_write_33 : decode b_Primitives_write 33 = .ok (.iload_n 2, 1) := by decide +kernel
theorem d_Primitives_write_34 : decode b_Primitives_write 34 = .ok (.aload_n 0, 1) := by decide +kernel
theorem d_Primitives_write_35 : decode b_Primitives_write 35 = .ok (.getfield 9, 3) := by decide +kernel
theorem d_Primitives_write_38 : decode b_Primitives_write 38 = .ok (.invokevirtual 64, 3) := by decide +kernel
theorem d_Primitives_write_41 : decode b_Primitives_write 41 = .ok (.iload_n 1, 1) := by decide +kernel
theorem d_Primitives_write_42 : decode b_Primitives_write 42 = .ok (.iadd, 1) := by decide +kernel
theorem d_Primitives_write_43 : decode b_Primitives_write 43 = .ok (.invokevirtual 213, 3) := by decide +kernel
theorem d_Primitives_write_46 : decode b_Primitives_write 46 = .ok (.iconst 0, 1) := by decide +kernel
theorem d_Primitives_write_47 : decode b_Primitives_write 47 = .ok (.ireturn, 1) := by decide +kernel
theorem d_Primitives_write_18 : decode b_Primitives_write 18 = .ok (.bipush (-9), 2) := by decide +kernel
theorem d_Primitives_write_20 : decode b_Primitives_write 20 = .ok (.ireturn, 1) := by decide +kernel
theorem d_Primitives_comma_0 : decode b_Primitives_comma 0 = .ok (.aload_n 0, 1) := by decide +kernel
theorem d_Primitives_comma_1 : decode b_Primitives_comma 1 = .ok (.getfield 22, 3) := by decide +kernel
theorem d_Primitives_comma_4 : decode b_Primitives_comma 4 = .ok (.invokevirtual 215, 3) := by decide +kernel
theorem d_Primitives_comma_7 : decode b_Primitives_comma 7 = .ok (.ifCond .eq 6, 3) := by decide +kernel
theorem d_Primitives_comma_13 : decode b_Primitives_comma 13 = .ok (.aload_n 0, 1) := by decide +kernel
theorem d_Primitives_comma_14 : decode b_Primitives_comma 14 = .ok (.getfield 22, 3) := by decide +kernel
theorem d_Primitives_comma_17 : decode b_Primitives_comma 17 = .ok (.aload_n 0, 1) := by decide +kernel
theorem d_Primitives_comma_18 : decode b_Primitives_comma 18 = .ok (.getfield 9, 3) := by decide +kernel
theorem d_Primitives_comma_21 : decode b_Primitives_comma 21 = .ok (.invokevirtual 64, 3) := by decide +kernel
theorem d_Primitives_comma_24 : decode b_Primitives_comma 24 = .ok (.invokevirtual 218, 3) := by decide +kernel
theorem d_Primitives_comma_27 : decode b_Primitives_comma 27 = .ok (.iconst 0, 1) := by decide +kernel
theorem d_Primitives_comma_28 : decode b_Primitives_comma 28 = .ok (.ireturn, 1) := by decide +kernel
theorem d_Primitives_comma_10 : decode b_Primitives_comma 10 = .ok (.bipush (-8), 2) := by decide +kernel
theorem d_Primitives_comma_12 : decode b_Primitives_comma 12 = .ok (.ireturn, 1) := by decide +kernel
theorem d_Primitives_said_0 : decode b_Primitives_said 0 = .ok (.iload_n 1, 1) := by decide +kernel
theorem d_Primitives_said_1 : decode b_Primitives_said 1 = .ok (.tableswitch 88 50 53 #[31, 48, 69, 78], 31) := by decide +kernel
theorem d_Primitives_said_32 : decode b_Primitives_said 32 = .ok (.aload_n 0, 1) := by decide +kernel
theorem d_Primitives_said_33 : decode b_Primitives_said 33 = .ok (.getfield 26, 3) := by decide +kernel
theorem d_Primitives_said_36 : decode b_Primitives_said 36 = .ok (.iload_n 2, 1) := by decide +kernel
theorem d_Primitives_said_37 : decode b_Primitives_said 37 = .ok (.i2l, 1) := by decide +kernel
theorem d_Primitives_said_38 : decode b_Primitives_said 38 = .ok (.aload_n 0, 1) := by decide +kernel
theorem d_Primitives_said_39 : decode b_Primitives_said 39 = .ok (.getfield 22, 3) := by decide +kernel
theorem d_Primitives_said_42 : decode b_Primitives_said 42 = .ok (.invokevirtual 228, 3) := by decide +kernel
theorem d_Primitives_said_45 : decode b_Primitives_said 45 = .ok (.invokevirtual 231, 3) := by decide +kernel
theorem d_Primitives_said_48 : decode b_Primitives_said 48 = .ok (.ireturn, 1) := by decide +kernel
theorem d_Primitives_said_49 : decode b_Primitives_said 49 = .ok (.aload_n 0, 1) := by decide +kernel
theorem d_Primitives_said_50 : decode b_Primitives_said 50 = .ok (.getfield 26, 3) := by decide +kernel
theorem d_Primitives_said_53 : decode b_Primitives_said 53 = .ok (.iload_n 2, 1) := by decide +kernel
theorem d_Primitives_said_54 : decode b_Primitives_said 54 = .ok (.i2l, 1) := by decide +kernel
theorem d_Primitives_said_55 : decode b_Primitives_said 55 = .ok (.ldc2_w 237, 3) := by decide +kernel
theorem d_Primitives_said_58 : decode b_Primitives_said 58 = .ok (.land, 1) := by decide +kernel
theorem d_Primitives_said_59 : decode b_Primitives_said 59 = .ok (.aload_n 0, 1) := by decide +kernel
theorem d_Primitives_said_60 : decode b_Primitives_said 60 = .ok (.getfield 22, 3) := by decide +kernel
theorem d_Primitives_said_63 : decode b_Primitives_said 63 = .ok (.invokevirtual 228, 3) := by decide +kernel
theorem d_Primitives_said_66 : decode b_Primitives_said 66 = .ok (.invokevirtual 231, 3) := by decide +kernel
theorem d_Primitives_said_69 : decode b_Primitives_said 69 = .ok (.ireturn, 1) := by decide +kernel
theorem d_Primitives_said_70 : decode b_Primitives_said 70 = .ok (.aload_n 0, 1) := by decide +kernel
theorem d_Primitives_said_71 : decode b_Primitives_said 71 = .ok (.getfield 26, 3) := by decide +kernel
theorem d_Primitives_said_74 : decode b_Primitives_said 74 = .ok (.iload_n 2, 1) := by decide +kernel
theorem d_Primitives_said_75 : decode b_Primitives_said 75 = .ok (.invokevirtual 239, 3) := by decide +kernel
theorem d_Primitives_said_78 : decode b_Primitives_said 78 = .ok (.ireturn, 1) := by decide +kernel
theorem d_Primitives_said_79 : decode b_Primitives_said 79 = .ok (.aload_n 0, 1) := by decide +kernel
theorem d_Primitives_said_80 : decode b_Primitives_said 80 = .ok (.getfield 26, 3) := by decide +kernel
theorem d_Primitives_said_83 : decode b_Primitives_said 83 = .ok (.bipush 10, 2) := by decide +kernel
theorem d_Primitives_said_85 : decode b_Primitives_said 85 = .ok (.invokevirtual 239, 3) := by decide +kernel
theorem d_Primitives_said_88 : decode b_Primitives_said 88 = .ok (.ireturn, 1) := by decide +kernel
theorem d_Primitives_said_89 : decode b_Primitives_said 89 = .ok (.aload_n 0, 1) := by decide +kernel
theorem d_Primitives_said_90 : decode b_Primitives_said 90 = .ok (.getfield 26, 3) := by decide +kernel
theorem d_Primitives_said_93 : decode b_Primitives_said 93 = .ok (.bipush 32, 2) := by decide +kernel
theorem d_Primitives_said_95 : decode b_Primitives_said 95 = .ok (.invokevirtual 239, 3) := by decide +kernel
theorem d_Primitives_said_98 : decode b_Primitives_said 98 = .ok (.ireturn, 1) := by decide +kernel
theorem d_Primitives_allocate_0 : decode b_Primitives_allocate 0 = .ok (.aload_n 0, 1) := by decide +kernel
theorem d_Primitives_allocate_1 : decode b_Primitives_allocate 1 = .ok (.getfield 22, 3) := by decide +kernel
theorem d_Primitives_allocate_4 : decode b_Primitives_allocate 4 = .ok (.aload_n 0, 1) := by decide +kernel
theorem d_Primitives_allocate_5 : decode b_Primitives_allocate 5 = .ok (.getfield 9, 3) := by decide +kernel
theorem d_Primitives_allocate_8 : decode b_Primitives_allocate 8 = .ok (.iconst 0, 1) := by decide +kernel
theorem d_Primitives_allocate_9 : decode b_Primitives_allocate 9 = .ok (.invokevirtual 116, 3) := by decide +kernel
theorem d_Primitives_allocate_12 : decode b_Primitives_allocate 12 = .ok (.invokevirtual 242, 3) := by decide +kernel
theorem d_Primitives_allocate_15 : decode b_Primitives_allocate 15 = .ok (.istore_n 1, 1) := by decide +kernel
theorem d_Primitives_allocate_16 : decode b_Primitives_allocate 16 = .ok (.aload_n 0, 1) := by decide +kernel
theorem d_Primitives_allocate_17 : decode b_Primitives_allocate 17 = .ok (.getfield 9, 3) := by decide +kernel
theorem d_Primitives_allocate_20 : decode b_Primitives_allocate 20 = .ok (.iconst 0, 1) := by decide +kernel
theorem d_Primitives_allocate_21 : decode b_Primitives_allocate 21 = .ok (.iload_n 1, 1) := by decide +kernel
theorem d_Primitives_allocate_22 : decode b_Primitives_allocate 22 = .ok (.invokevirtual 152, 3) := by decide +kernel
theorem d_Primitives_allocate_25 : decode b_Primitives_allocate 25 = .ok (.aload_n 0, 1) := by decide +kernel
theorem d_Primitives_allocate_26 : decode b_Primitives_allocate 26 = .ok (.iload_n 1, 1) := by decide +kernel
theorem d_Primitives_allocate_27 : decode b_Primitives_allocate 27 = .ok (.ifCond .ne 8, 3) := by decide +kernel
theorem d_Primitives_allocate_35 : decode b_Primitives_allocate 35 = .ok (.iconst 0, 1) := by decide +kernel
theorem d_Primitives_allocate_36 : decode b_Primitives_allocate 36 = .ok (.invokevirtual 119, 3) := by decide +kernel
theorem d_Primitives_allocate_39 : decode b_Primitives_allocate 39 = .ok (.ireturn, 1) := by decide +kernel
theorem d_Primitives_allocate_30 : decode b_Primitives_allocate 30 = .ok (.bipush (-59), 2) := by decide +kernel
theorem d_Primitives_allocate_32 : decode b_Primitives_allocate 32 = .ok (.goto 4, 3) := by decide +kernel
theorem d_Primitives_free_0 : decode b_Primitives_free 0 = .ok (.aload_n 0, 1) := by decide +kernel
theorem d_Primitives_free_1 : decode b_Primitives_free 1 = .ok (.getfield 9, 3) := by decide +kernel
theorem d_Primitives_free_4 : decode b_Primitives_free 4 = .ok (.iconst 0, 1) := by decide +kernel
theorem d_Primitives_free_5 : decode b_Primitives_free 5 = .ok (.aload_n 0, 1) := by decide +kernel
theorem d_Primitives_free_6 : decode b_Primitives_free 6 = .ok (.getfield 22, 3) := by decide +kernel
theorem d_Primitives_free_9 : decode b_Primitives_free 9 = .ok (.aload_n 0, 1) := by decide +kernel
theorem d_Primitives_free_10 : decode b_Primitives_free 10 = .ok (.getfield 9, 3) := by decide +kernel
theorem d_Primitives_free_13 : decode b_Primitives_free 13 = .ok (.iconst 0, 1) := by decide +kernel
theorem d_Primitives_free_14 : decode b_Primitives_free 14 = .ok (.invokevirtual 116, 3) := by decide +kernel
theorem d_Primitives_free_17 : decode b_Primitives_free 17 = .ok (.invokevirtual 244, 3) := by decide +kernel
theorem d_Primitives_free_20 : decode b_Primitives_free 20 = .ok (.ifCond .eq 7, 3) := by decide +kernel
theorem d_Primitives_free_27 : decode b_Primitives_free 27 = .ok (.bipush (-60), 2) := by decide +kernel
theorem d_Primitives_free_29 : decode b_Primitives_free 29 = .ok (.invokevirtual 152, 3) := by decide +kernel
theorem d_Primitives_free_32 : decode b_Primitives_free 32 = .ok (.iconst 0, 1) := by decide +kernel
theorem d_Primitives_free_33 : decode b_Primitives_free 33 = .ok (.ireturn, 1) := by decide +kernel
theorem d_Primitives_free_23 : decode b_Primitives_free 23 = .ok (.iconst 0, 1) := by decide +kernel
theorem d_Primitives_free_24 : decode b_Primitives_free 24 = .ok (.goto 5, 3) := by decide +kernel
theorem d_Primitives_resize_0 : decode b_Primitives_resize 0 = .ok (.aload_n 0, 1) := by decide +kernel
theorem d_Primitives_resize_1 : decode b_Primitives_resize 1 = .ok (.getfield 22, 3) := by decide +kernel
theorem d_Primitives_resize_4 : decode b_Primitives_resize 4 = .ok (.aload_n 0, 1) := by decide +kernel
theorem d_Primitives_resize_5 : decode b_Primitives_resize 5 = .ok (.getfield 9, 3) := by decide +kernel
theorem d_Primitives_resize_8 : decode b_Primitives_resize 8 = .ok (.iconst 1, 1) := by decide +kernel
theorem d_Primitives_resize_9 : decode b_Primitives_resize 9 = .ok (.invokevirtual 116, 3) := by decide +kernel
theorem d_Primitives_resize_12 : decode b_Primitives_resize 12 = .ok (.aload_n 0, 1) := by decide +kernel
theorem d_Primitives_resize_13 : decode b_Primitives_resize 13 = .ok (.getfield 9, 3) := by decide +kernel
theorem d_Primitives_resize_16 : decode b_Primitives_resize 16 = .ok (.iconst 0, 1) := by decide +kernel
theorem d_Primitives_resize_17 : decode b_Primitives_resize 17 = .ok (.invokevirtual 116, 3) := by decide +kernel
theorem d_Primitives_resize_20 : decode b_Primitives_resize 20 = .ok (.invokevirtual 246, 3) := by decide +kernel
theorem d_Primitives_resize_23 : decode b_Primitives_resize 23 = .ok (.istore_n 1, 1) := by decide +kernel
theorem d_Primitives_resize_24 : decode b_Primitives_resize 24 = .ok (.iload_n 1, 1) := by decide +kernel
theorem d_Primitives_resize_25 : decode b_Primitives_resize 25 = .ok (.ifCond .ne 15, 3) := by decide +kernel
theorem d_Primitives_resize_40 : decode b_Primitives_resize 40 = .ok (.aload_n 0, 1) := by decide +kernel
theorem d_Primitives_resize_41 : decode b_Primitives_resize 41 = .ok (.getfield 9, 3) := by decide +kernel
theorem d_Primitives_resize_44 : decode b_Primitives_resize 44 = .ok (.iconst 1, 1) := by decide +kernel
theorem d_Primitives_resize_45 : decode b_Primitives_resize 45 = .ok (.iload_n 1, 1) := by decide +kernel
theorem d_Primitives_resize_46 : decode b_Primitives_resize 46 = .ok (.invokevirtual 152, 3) := by decide +kernel
theorem d_Primitives_resize_49 : decode b_Primitives_resize 49 = .ok (.aload_n 0, 1) := by decide +kernel
theorem d_Primitives_resize_50 : decode b_Primitives_resize 50 = .ok (.getfield 9, 3) := by decide +kernel
theorem d_Primitives_resize_53 : decode b_Primitives_resize 53 = .ok (.iconst 0, 1) := by decide +kernel
theorem d_Primitives_resize_54 : decode b_Primitives_resize 54 = .ok (.iconst 0, 1) := by decide +kernel
theorem d_Primitives_resize_55 : decode b_Primitives_resize 55 = .ok (.invokevirtual 152, 3) := by decide +kernel
theorem d_Primitives_resize_58 : decode b_Primitives_resize 58 = .ok (.iconst 0, 1) := by decide +kernel
theorem d_Primitives_resize_59 : decode b_Primitives_resize 59 = .ok (.ireturn, 1) := by decide +kernel
theorem d_Primitives_resize_28 : decode b_Primitives_resize 28 = .ok (.aload_n 0, 1) := by decide +kernel
theorem d_Primitives_resize_29 : decode b_Primitives_resize 29 = .ok (.getfield 9, 3) := by decide +kernel
theorem d_Primitives_resize_32 : decode b_Primitives_resize 32 = .ok (.iconst 0, 1) := by decide +kernel
theorem d_Primitives_resize_33 : decode b_Primitives_resize 33 = .ok (.bipush (-61), 2) := by decide +kernel
theorem d_Primitives_resize_35 : decode b_Primitives_resize 35 = .ok (.invokevirtual 152, 3) := by decide +kernel
theorem d_Primitives_resize_38 : decode b_Primitives_resize 38 = .ok (.iconst 0, 1) := by decide +kernel
theorem d_Primitives_resize_39 : decode b_Primitives_resize 39 = .ok (.ireturn, 1) := by decide +kernel
/-- the picture of ColonMachine$Primitives.isToken -/
def F_Prim_isToken (x1 : Int32) : Int32 := if x1 < 1000 then 0 else (if 1071 ≤ x1 then 0 else 1)
theorem F_Prim_isToken_e (x1 : Int32) : F_Prim_isToken x1 = if x1 < 1000 then 0 else (if 1071 ≤ x1 then 0 else 1) := rfl
set_option maxHeartbeats 4000000 in
set_option maxRecDepth 100000 in
theorem c_Prim_isToken (l : Launch) (D : va_G) (cI cJ cZ cW cT : ClassId) (sz : Nat) (x1 : Int32)  : Met l y_Primitives_isToken w_Primitives_isToken ({ frames := 0, cells := 0, slots := 0, locals := 0 }) (va_Pc [.int x1] (zP D classes (TY cI cJ cZ cW cT) [] sz)) (va_Qi (fun (r : Int32) (_ : Unit) => r = F_Prim_isToken x1 ∧ ((r = 0 ∨ r = 1))) (fun _ => zB D classes (TY cI cJ cZ cW cT) (va_A [] sz) []) (va_A [] sz)) 0 0 (va_A [] sz) := by
  refine Met.ofW (cc := b_Primitives_isToken) (maxL := 1) (ret := (some .boolean)) (by decide) rfl ?_
  intro p e s m args below meth c s₁ B hml hv
  obtain ⟨rfl, hsz, hP, hK, hD0, hE⟩ := hv
  have hx := B.exec
  have hb := B.bytes
  have hr := B.returns
  have hts := atoms_spec (ws := w_Primitives_isToken) B.pre
  have hT : ∀ w ∈ TB, w.before _ s = true := fun w h => hts w (List.mem_cons_of_mem _ h)
  have hown : s.vm.findClass "ColonMachine$Primitives" = some m.cls := findClass_of_methodNamed B.named
  have hlocks := B.notSynchronized
  subst hsz
  have hD := hD0.self (sz := s.heap.size)
  generalize hAe : va_A [] s.heap.size = A at hD hE ⊢
  have hA : ∀ q : Nat, s.heap.size ≤ q → A q := fun q h => by rw [← hAe]; exact Or.inr h
  have hS : va_S A s.heap s.heap [] := va_S.rf
  have hl := lv_entry [.int x1] (n := 1) (Nat.le_of_ble_eq_true rfl)
  rw [lg_entry_eq]
  generalize (lg_sl [.int x1] ++ List.replicate (1 - (lg_sl [.int x1]).length) Slot.unset).toArray = ls at hl ⊢
  have hl : lv_has ls 1 [(0, .int x1)] := hl
  have hF := F_Prim_isToken_e x1
  refine lv_iload_n hx hb d_Primitives_isToken_0 rfl (lv_at hl 0 rfl) ?_
  refine lv_sipush (v := 1000) hx hb d_Primitives_isToken_1 (by decide) ?_
  refine lv_icmp_lt (tgt := 18) hx hb d_Primitives_isToken_4 (by decide) (fun c1 => ?_) (fun c1 => ?_)
  · have hF := hF.trans (if_pos c1)
    refine lv_iconst (v := 0) hx hb d_Primitives_isToken_18 (by decide) ?_
    exact W.zret (v := 0) hx hb hr rfl (fun t ht hW => ⟨⟨_, (), rfl, ⟨hF.symm, (Or.inl rfl)⟩, ⟨by rw [ht]; exact hP, va_K.moved hW.alike hK, hD⟩⟩, hS.F ht⟩) hS.2.2 d_Primitives_isToken_19
  · have hF := hF.trans (if_neg c1)
    refine lv_iload_n hx hb d_Primitives_isToken_7 rfl (lv_at hl 0 rfl) ?_
    refine lv_sipush (v := 1071) hx hb d_Primitives_isToken_8 (by decide) ?_
    refine lv_icmp_ge (tgt := 18) hx hb d_Primitives_isToken_11 (by decide) (fun c2 => ?_) (fun c2 => ?_)
    · have hF := hF.trans (if_pos c2)
      refine lv_iconst (v := 0) hx hb d_Primitives_isToken_18 (by decide) ?_
      exact W.zret (v := 0) hx hb hr rfl (fun t ht hW => ⟨⟨_, (), rfl, ⟨hF.symm, (Or.inl rfl)⟩, ⟨by rw [ht]; exact hP, va_K.moved hW.alike hK, hD⟩⟩, hS.F ht⟩) hS.2.2 d_Primitives_isToken_19
    · have hF := hF.trans (if_neg c2)
      refine lv_iconst (v := 1) hx hb d_Primitives_isToken_14 (by decide) ?_
      refine lv_goto (tgt := 19) hx hb d_Primitives_isToken_15 (by decide) ?_
      exact W.zret (v := 1) hx hb hr rfl (fun t ht hW => ⟨⟨_, (), rfl, ⟨hF.symm, (Or.inr rfl)⟩, ⟨by rw [ht]; exact hP, va_K.moved hW.alike hK, hD⟩⟩, hS.F ht⟩) hS.2.2 d_Primitives_isToken_19
/-- the picture of ColonMachine$Primitives.isForBodies -/
def F_Prim_isForBodies (x1 : Int32) : Int32 := if x1 < 40 then (if x1 < 61 then 0 else (if 64 < x1 then 0 else 1)) else (if x1 ≤ 42 then 1 else (if x1 < 61 then 0 else (if 64 < x1 then 0 else 1)))
theorem F_Prim_isForBodies_e (x1 : Int32) : F_Prim_isForBodies x1 = if x1 < 40 then (if x1 < 61 then 0 else (if 64 < x1 then 0 else 1)) else (if x1 ≤ 42 then 1 else (if x1 < 61 then 0 else (if 64 < x1 then 0 else 1))) := rfl
set_option maxHeartbeats 4000000 in
set_option maxRecDepth 100000 in
theorem c_Prim_isForBodies (l : Launch) (D : va_G) (cI cJ cZ cW cT : ClassId) (sz : Nat) (x1 : Int32)  : Met l y_Primitives_isForBodies w_Primitives_isForBodies ({ frames := 0, cells := 0, slots := 0, locals := 0 }) (va_Pc [.int x1] (zP D classes (TY cI cJ cZ cW cT) [] sz)) (va_Qi (fun (r : Int32) (_ : Unit) => r = F_Prim_isForBodies x1 ∧ ((r = 0 ∨ r = 1))) (fun _ => zB D classes (TY cI cJ cZ cW cT) (va_A [] sz) []) (va_A [] sz)) 0 0 (va_A [] sz) := by
  refine Met.ofW (cc := b_Primitives_isForBodies) (maxL := 1) (ret := (some .boolean)) (by decide) rfl ?_
  intro p e s m args below meth c s₁ B hml hv
  obtain ⟨rfl, hsz, hP, hK, hD0, hE⟩ := hv
  have hx := B.exec
  have hb := B.bytes
  have hr := B.returns
  have hts := atoms_spec (ws := w_Primitives_isForBodies) B.pre
  have hT : ∀ w ∈ TB, w.before _ s = true := fun w h => hts w (List.mem_cons_of_mem _ h)
  have hown : s.vm.findClass "ColonMachine$Primitives" = some m.cls := findClass_of_methodNamed B.named
  have hlocks := B.notSynchronized
  subst hsz
  have hD := hD0.self (sz := s.heap.size)
  generalize hAe : va_A [] s.heap.size = A at hD hE ⊢
  have hA : ∀ q : Nat, s.heap.size ≤ q → A q := fun q h => by rw [← hAe]; exact Or.inr h
  have hS : va_S A s.heap s.heap [] := va_S.rf
  have hl := lv_entry [.int x1] (n := 1) (Nat.le_of_ble_eq_true rfl)
  rw [lg_entry_eq]
  generalize (lg_sl [.int x1] ++ List.replicate (1 - (lg_sl [.int x1]).length) Slot.unset).toArray = ls at hl ⊢
  have hl : lv_has ls 1 [(0, .int x1)] := hl
  have hF := F_Prim_isForBodies_e x1
  refine lv_iload_n hx hb d_Primitives_isForBodies_0 rfl (lv_at hl 0 rfl) ?_
  refine lv_bipush (v := 40) hx hb d_Primitives_isForBodies_1 (by decide) ?_
  refine lv_icmp_lt (tgt := 12) hx hb d_Primitives_isForBodies_3 (by decide) (fun c1 => ?_) (fun c1 => ?_)
  · have hF := hF.trans (if_pos c1)
    refine lv_iload_n hx hb d_Primitives_isForBodies_12 rfl (lv_at hl 0 rfl) ?_
    refine lv_bipush (v := 61) hx hb d_Primitives_isForBodies_13 (by decide) ?_
    refine lv_icmp_lt (tgt := 28) hx hb d_Primitives_isForBodies_15 (by decide) (fun c2 => ?_) (fun c2 => ?_)
    · have hF := hF.trans (if_pos c2)
      refine lv_iconst (v := 0) hx hb d_Primitives_isForBodies_28 (by decide) ?_
      exact W.zret (v := 0) hx hb hr rfl (fun t ht hW => ⟨⟨_, (), rfl, ⟨hF.symm, (Or.inl rfl)⟩, ⟨by rw [ht]; exact hP, va_K.moved hW.alike hK, hD⟩⟩, hS.F ht⟩) hS.2.2 d_Primitives_isForBodies_29
    · have hF := hF.trans (if_neg c2)
      refine lv_iload_n hx hb d_Primitives_isForBodies_18 rfl (lv_at hl 0 rfl) ?_
      refine lv_bipush (v := 64) hx hb d_Primitives_isForBodies_19 (by decide) ?_
      refine lv_icmp_gt (tgt := 28) hx hb d_Primitives_isForBodies_21 (by decide) (fun c3 => ?_) (fun c3 => ?_)
      · have hF := hF.trans (if_pos c3)
        refine lv_iconst (v := 0) hx hb d_Primitives_isForBodies_28 (by decide) ?_
        exact W.zret (v := 0) hx hb hr rfl (fun t ht hW => ⟨⟨_, (), rfl, ⟨hF.symm, (Or.inl rfl)⟩, ⟨by rw [ht]; exact hP, va_K.moved hW.alike hK, hD⟩⟩, hS.F ht⟩) hS.2.2 d_Primitives_isForBodies_29
      · have hF := hF.trans (if_neg c3)
        refine lv_iconst (v := 1) hx hb d_Primitives_isForBodies_24 (by decide) ?_
        refine lv_goto (tgt := 29) hx hb d_Primitives_isForBodies_25 (by decide) ?_
        exact W.zret (v := 1) hx hb hr rfl (fun t ht hW => ⟨⟨_, (), rfl, ⟨hF.symm, (Or.inr rfl)⟩, ⟨by rw [ht]; exact hP, va_K.moved hW.alike hK, hD⟩⟩, hS.F ht⟩) hS.2.2 d_Primitives_isForBodies_29
  · have hF := hF.trans (if_neg c1)
    refine lv_iload_n hx hb d_Primitives_isForBodies_6 rfl (lv_at hl 0 rfl) ?_
    refine lv_bipush (v := 42) hx hb d_Primitives_isForBodies_7 (by decide) ?_
    refine lv_icmp_le (tgt := 24) hx hb d_Primitives_isForBodies_9 (by decide) (fun c4 => ?_) (fun c4 => ?_)
    · have hF := hF.trans (if_pos c4)
      refine lv_iconst (v := 1) hx hb d_Primitives_isForBodies_24 (by decide) ?_
      refine lv_goto (tgt := 29) hx hb d_Primitives_isForBodies_25 (by decide) ?_
      exact W.zret (v := 1) hx hb hr rfl (fun t ht hW => ⟨⟨_, (), rfl, ⟨hF.symm, (Or.inr rfl)⟩, ⟨by rw [ht]; exact hP, va_K.moved hW.alike hK, hD⟩⟩, hS.F ht⟩) hS.2.2 d_Primitives_isForBodies_29
    · have hF := hF.trans (if_neg c4)
      refine lv_iload_n hx hb d_Primitives_isForBodies_12 rfl (lv_at hl 0 rfl) ?_
      refine lv_bipush (v := 61) hx hb d_Primitives_isForBodies_13 (by decide) ?_
      refine lv_icmp_lt (tgt := 28) hx hb d_Primitives_isForBodies_15 (by decide) (fun c5 => ?_) (fun c5 => ?_)
      · have hF := hF.trans (if_pos c5)
        refine lv_iconst (v := 0) hx hb d_Primitives_isForBodies_28 (by decide) ?_
        exact W.zret (v := 0) hx hb hr rfl (fun t ht hW => ⟨⟨_, (), rfl, ⟨hF.symm, (Or.inl rfl)⟩, ⟨by rw [ht]; exact hP, va_K.moved hW.alike hK, hD⟩⟩, hS.F ht⟩) hS.2.2 d_Primitives_isForBodies_29
      · have hF := hF.trans (if_neg c5)
        refine lv_iload_n hx hb d_Primitives_isForBodies_18 rfl (lv_at hl 0 rfl) ?_
        refine lv_bipush (v := 64) hx hb d_Primitives_isForBodies_19 (by decide) ?_
        refine lv_icmp_gt (tgt := 28) hx hb d_Primitives_isForBodies_21 (by decide) (fun c6 => ?_) (fun c6 => ?_)
        · have hF := hF.trans (if_pos c6)
          refine lv_iconst (v := 0) hx hb d_Primitives_isForBodies_28 (by decide) ?_
          exact W.zret (v := 0) hx hb hr rfl (fun t ht hW => ⟨⟨_, (), rfl, ⟨hF.symm, (Or.inl rfl)⟩, ⟨by rw [ht]; exact hP, va_K.moved hW.alike hK, hD⟩⟩, hS.F ht⟩) hS.2.2 d_Primitives_isForBodies_29
        · have hF := hF.trans (if_neg c6)
          refine lv_iconst (v := 1) hx hb d_Primitives_isForBodies_24 (by decide) ?_
          refine lv_goto (tgt := 29) hx hb d_Primitives_isForBodies_25 (by decide) ?_
          exact W.zret (v := 1) hx hb hr rfl (fun t ht hW => ⟨⟨_, (), rfl, ⟨hF.symm, (Or.inr rfl)⟩, ⟨by rw [ht]; exact hP, va_K.moved hW.alike hK, hD⟩⟩, hS.F ht⟩) hS.2.2 d_Primitives_isForBodies_29
/-- the picture of ColonMachine$Primitives.ownReturnsNeeded -/
def F_Prim_ownReturnsNeeded (x1 : Int32) : Int32 := if x1 = 41 then 1 else (if x1 = 42 then 1 else (if x1 = 61 then 2 else (if x1 = 62 then 4 else (if x1 = 63 then 2 else 0))))
theorem F_Prim_ownReturnsNeeded_e (x1 : Int32) : F_Prim_ownReturnsNeeded x1 = if x1 = 41 then 1 else (if x1 = 42 then 1 else (if x1 = 61 then 2 else (if x1 = 62 then 4 else (if x1 = 63 then 2 else 0)))) := rfl
set_option maxHeartbeats 4000000 in
set_option maxRecDepth 100000 in
theorem c_Prim_ownReturnsNeeded (l : Launch) (D : va_G) (cI cJ cZ cW cT : ClassId) (sz : Nat) (x1 : Int32)  : Met l y_Primitives_ownReturnsNeeded w_Primitives_ownReturnsNeeded ({ frames := 0, cells := 0, slots := 0, locals := 0 }) (va_Pc [.int x1] (zP D classes (TY cI cJ cZ cW cT) [] sz)) (va_Qi (fun (r : Int32) (_ : Unit) => r = F_Prim_ownReturnsNeeded x1 ∧ (True)) (fun _ => zB D classes (TY cI cJ cZ cW cT) (va_A [] sz) []) (va_A [] sz)) 0 0 (va_A [] sz) := by
  refine Met.ofW (cc := b_Primitives_ownReturnsNeeded) (maxL := 1) (ret := (some .int)) (by decide) rfl ?_
  intro p e s m args below meth c s₁ B hml hv
  obtain ⟨rfl, hsz, hP, hK, hD0, hE⟩ := hv
  have hx := B.exec
  have hb := B.bytes
  have hr := B.returns
  have hts := atoms_spec (ws := w_Primitives_ownReturnsNeeded) B.pre
  have hT : ∀ w ∈ TB, w.before _ s = true := fun w h => hts w (List.mem_cons_of_mem _ h)
  have hown : s.vm.findClass "ColonMachine$Primitives" = some m.cls := findClass_of_methodNamed B.named
  have hlocks := B.notSynchronized
  subst hsz
  have hD := hD0.self (sz := s.heap.size)
  generalize hAe : va_A [] s.heap.size = A at hD hE ⊢
  have hA : ∀ q : Nat, s.heap.size ≤ q → A q := fun q h => by rw [← hAe]; exact Or.inr h
  have hS : va_S A s.heap s.heap [] := va_S.rf
  have hl := lv_entry [.int x1] (n := 1) (Nat.le_of_ble_eq_true rfl)
  rw [lg_entry_eq]
  generalize (lg_sl [.int x1] ++ List.replicate (1 - (lg_sl [.int x1]).length) Slot.unset).toArray = ls at hl ⊢
  have hl : lv_has ls 1 [(0, .int x1)] := hl
  have hF := F_Prim_ownReturnsNeeded_e x1
  refine lv_iload_n hx hb d_Primitives_ownReturnsNeeded_0 rfl (lv_at hl 0 rfl) ?_
  by_cases c1 : x1 = 41
  · have hF := hF.trans (if_pos c1)
    refine lv_lookup (off := 51) (tgt := 52) hx hb d_Primitives_ownReturnsNeeded_1 (by decide) (by rw [c1]; decide) (by decide) ?_
    refine lv_iconst (v := 1) hx hb d_Primitives_ownReturnsNeeded_52 (by decide) ?_
    exact W.iret (v := 1) hx hb hr (fun t ht hW => ⟨⟨_, (), rfl, ⟨hF.symm, trivial⟩, ⟨by rw [ht]; exact hP, va_K.moved hW.alike hK, hD⟩⟩, hS.F ht⟩) hS.2.2 d_Primitives_ownReturnsNeeded_53
  · have hF := hF.trans (if_neg c1)
    by_cases c2 : x1 = 42
    · have hF := hF.trans (if_pos c2)
      refine lv_lookup (off := 51) (tgt := 52) hx hb d_Primitives_ownReturnsNeeded_1 (by decide) (by rw [c2]; decide) (by decide) ?_
      refine lv_iconst (v := 1) hx hb d_Primitives_ownReturnsNeeded_52 (by decide) ?_
      exact W.iret (v := 1) hx hb hr (fun t ht hW => ⟨⟨_, (), rfl, ⟨hF.symm, trivial⟩, ⟨by rw [ht]; exact hP, va_K.moved hW.alike hK, hD⟩⟩, hS.F ht⟩) hS.2.2 d_Primitives_ownReturnsNeeded_53
    · have hF := hF.trans (if_neg c2)
      by_cases c3 : x1 = 61
      · have hF := hF.trans (if_pos c3)
        refine lv_lookup (off := 53) (tgt := 54) hx hb d_Primitives_ownReturnsNeeded_1 (by decide) (by rw [c3]; decide) (by decide) ?_
        refine lv_iconst (v := 2) hx hb d_Primitives_ownReturnsNeeded_54 (by decide) ?_
        exact W.iret (v := 2) hx hb hr (fun t ht hW => ⟨⟨_, (), rfl, ⟨hF.symm, trivial⟩, ⟨by rw [ht]; exact hP, va_K.moved hW.alike hK, hD⟩⟩, hS.F ht⟩) hS.2.2 d_Primitives_ownReturnsNeeded_55
      · have hF := hF.trans (if_neg c3)
        by_cases c4 : x1 = 62
        · have hF := hF.trans (if_pos c4)
          refine lv_lookup (off := 55) (tgt := 56) hx hb d_Primitives_ownReturnsNeeded_1 (by decide) (by rw [c4]; decide) (by decide) ?_
          refine lv_iconst (v := 4) hx hb d_Primitives_ownReturnsNeeded_56 (by decide) ?_
          exact W.iret (v := 4) hx hb hr (fun t ht hW => ⟨⟨_, (), rfl, ⟨hF.symm, trivial⟩, ⟨by rw [ht]; exact hP, va_K.moved hW.alike hK, hD⟩⟩, hS.F ht⟩) hS.2.2 d_Primitives_ownReturnsNeeded_57
        · have hF := hF.trans (if_neg c4)
          by_cases c5 : x1 = 63
          · have hF := hF.trans (if_pos c5)
            refine lv_lookup (off := 53) (tgt := 54) hx hb d_Primitives_ownReturnsNeeded_1 (by decide) (by rw [c5]; decide) (by decide) ?_
            refine lv_iconst (v := 2) hx hb d_Primitives_ownReturnsNeeded_54 (by decide) ?_
            exact W.iret (v := 2) hx hb hr (fun t ht hW => ⟨⟨_, (), rfl, ⟨hF.symm, trivial⟩, ⟨by rw [ht]; exact hP, va_K.moved hW.alike hK, hD⟩⟩, hS.F ht⟩) hS.2.2 d_Primitives_ownReturnsNeeded_55
          · have hF := hF.trans (if_neg c5)
            refine lv_lookup (off := 57) (tgt := 58) hx hb d_Primitives_ownReturnsNeeded_1 (by decide) ((lv_osw (a := 41) c1 rfl).trans ((lv_osw (a := 42) c2 rfl).trans ((lv_osw (a := 61) c3 rfl).trans ((lv_osw (a := 62) c4 rfl).trans ((lv_osw (a := 63) c5 rfl).trans rfl))))) (by decide) ?_
            refine lv_iconst (v := 0) hx hb d_Primitives_ownReturnsNeeded_58 (by decide) ?_
            exact W.iret (v := 0) hx hb hr (fun t ht hW => ⟨⟨_, (), rfl, ⟨hF.symm, trivial⟩, ⟨by rw [ht]; exact hP, va_K.moved hW.alike hK, hD⟩⟩, hS.F ht⟩) hS.2.2 d_Primitives_ownReturnsNeeded_59
/-- the picture of ColonMachine$Primitives.put -/
def F_Prim_put (dn : Int32) (df : Nat → Int32) (x1 : Int32) : Int32 × Int32 × (Nat → Int32) := bd (F_Cells_put 64 dn df x1) (fun q1 => (0, (q1.1, q1.2)))
theorem F_Prim_put_e (dn : Int32) (df : Nat → Int32) (x1 : Int32) : F_Prim_put dn df x1 = bd (F_Cells_put 64 dn df x1) (fun q1 => (0, (q1.1, q1.2))) := rfl
set_option maxHeartbeats 4000000 in
set_option maxRecDepth 100000 in
theorem c_Prim_put (l : Launch) (D : va_G) (cI cJ cZ cW cT : ClassId) (sz : Nat) (pp : Nat) (dd : Nat) (rr : Nat) (kc : Nat) (mm : Nat) (oo : Nat) (tt : Nat) (ww : Nat) (da : Nat) (dn : Int32) (df : Nat → Int32) (x1 : Int32) (hid : CellsOk 64 dn) : Met l y_Primitives_put w_Primitives_put ({ frames := 1, cells := 0, slots := 0, locals := 21 }) (va_Pc [.ref pp, .int x1] (zP D classes (TY cI cJ cZ cW cT) [(pp, .inr (6, [.ref dd, .ref rr, .ref kc, .ref mm, .ref oo, .ref tt, .ref ww])), (dd, .inr (1, [.ref da, .int dn])), (da, .inl (cI, 64, .inl df))] sz)) (va_Qi (fun (r : Int32) (u : Int32 × (Nat → Int32)) => (r, u) = F_Prim_put dn df x1 ∧ ((CellsOk 64 u.1))) (fun u => zB D classes (TY cI cJ cZ cW cT) (va_A [(pp, .inr (6, [.ref dd, .ref rr, .ref kc, .ref mm, .ref oo, .ref tt, .ref ww])), (dd, .inr (1, [.ref da, .int dn])), (da, .inl (cI, 64, .inl df))] sz) [(pp, .inr (6, [.ref dd, .ref rr, .ref kc, .ref mm, .ref oo, .ref tt, .ref ww])), (dd, .inr (1, [.ref da, .int u.1])), (da, .inl (cI, 64, .inl u.2))]) (va_A [(pp, .inr (6, [.ref dd, .ref rr, .ref kc, .ref mm, .ref oo, .ref tt, .ref ww])), (dd, .inr (1, [.ref da, .int dn])), (da, .inl (cI, 64, .inl df))] sz)) 0 0 (va_A [(pp, .inr (6, [.ref dd, .ref rr, .ref kc, .ref mm, .ref oo, .ref tt, .ref ww])), (dd, .inr (1, [.ref da, .int dn])), (da, .inl (cI, 64, .inl df))] sz) := by
  refine Met.ofW (cc := b_Primitives_put) (maxL := 2) (ret := (some .int)) (by decide) rfl ?_
  intro p e s m args below meth c s₁ B hml hv
  obtain ⟨rfl, hsz, hP, hK, hD0, hE⟩ := hv
  have hx := B.exec
  have hb := B.bytes
  have hr := B.returns
  have hts := atoms_spec (ws := w_Primitives_put) B.pre
  have hT : ∀ w ∈ TB, w.before _ s = true := fun w h => hts w (List.mem_cons_of_mem _ h)
  have hown : s.vm.findClass "ColonMachine$Primitives" = some m.cls := findClass_of_methodNamed B.named
  have hlocks := B.notSynchronized
  subst hsz
  have hD := hD0.self (sz := s.heap.size)
  generalize hAe : va_A [(pp, .inr (6, [.ref dd, .ref rr, .ref kc, .ref mm, .ref oo, .ref tt, .ref ww])), (dd, .inr (1, [.ref da, .int dn])), (da, .inl (cI, 64, .inl df))] s.heap.size = A at hD hE ⊢
  have hA : ∀ q : Nat, s.heap.size ≤ q → A q := fun q h => by rw [← hAe]; exact Or.inr h
  have hS : va_S A s.heap s.heap [] := va_S.rf
  have hl := lv_entry [.ref pp, .int x1] (n := 2) (Nat.le_of_ble_eq_true rfl)
  rw [lg_entry_eq]
  generalize (lg_sl [.ref pp, .int x1] ++ List.replicate (2 - (lg_sl [.ref pp, .int x1]).length) Slot.unset).toArray = ls at hl ⊢
  have hl : lv_has ls 2 [(0, .ref pp), (1, .int x1)] := hl
  have hF := F_Prim_put_e dn df x1
  refine lv_aload_n hx hb d_Primitives_put_0 rfl (lv_at hl 0 rfl) ?_
  refine va_get (D := D) (v := .ref dd) (C := "ColonMachine$Primitives") (T := T_Primitives) (N := 7) hx hb hT i_Primitives hown hK hP 0 rfl rfl 0 (by decide) (hT _ fl_Primitives_9) (fun _ h9 => h9) rfl d_Primitives_put_1 ?_
  refine lv_iload_n hx hb d_Primitives_put_4 rfl (lv_at hl 1 rfl) ?_
  refine kN_sv (wr := [(pp, .inr (6, [.ref dd, .ref rr, .ref kc, .ref mm, .ref oo, .ref tt, .ref ww]))]) (fun u : Int32 × (Nat → Int32) => [(pp, .inr (6, [.ref dd, .ref rr, .ref kc, .ref mm, .ref oo, .ref tt, .ref ww])), (dd, .inr (1, [.ref da, .int u.1])), (da, .inl (cI, 64, .inl u.2))]) (zV (wc := [(dd, .inr (1, [.ref da, .int dn])), (da, .inl (cI, 64, .inl df))]) (As := [.int x1]) (rest := []) (st0 := [.int x1, .ref dd]) ⟨hx, hb, hml, hown, hT⟩ (c_Cells_put l D cI cJ cZ cW cT s.heap.size dd da 64 dn df x1 hid) (cwV 1 hT (tbV ml_Primitives_146 im_Cells_put se_Cells_put in_Cells co_Cells_put) rfl rfl rfl v_Cells_put ⟨Nat.le_of_ble_eq_true rfl, Nat.le_of_ble_eq_true rfl⟩) hK hE hP hD hS hA [1, 2] rfl rfl 0 rfl rfl rfl hl.1 rfl (Nat.le_of_ble_eq_true rfl) d_Primitives_put_5 ⟨Nat.le_of_ble_eq_true rfl, Nat.le_of_ble_eq_true rfl⟩) hP hD hS hA [1, 2] [0] rfl rfl rfl (by decide) [0, 1, 2] rfl (fun u => rfl) (fun q1 H locs e1 k1 hP hD hS => ?_)
  have hP : va_P D classes [(pp, .inr (6, [.ref dd, .ref rr, .ref kc, .ref mm, .ref oo, .ref tt, .ref ww])), (dd, .inr (1, [.ref da, .int q1.1])), (da, .inl (cI, 64, .inl q1.2))] H := hP
  have hD : va_D A [(pp, .inr (6, [.ref dd, .ref rr, .ref kc, .ref mm, .ref oo, .ref tt, .ref ww])), (dd, .inr (1, [.ref da, .int q1.1])), (da, .inl (cI, 64, .inl q1.2))] := hD
  have hF := hF.trans (bd_e e1)
  refine lv_iconst (v := 0) hx hb d_Primitives_put_8 (by decide) ?_
  exact W.iret (v := 0) hx hb hr (fun t ht hW => ⟨⟨_, _, rfl, ⟨hF.symm, k1⟩, ⟨by rw [ht]; exact hP, va_K.moved hW.alike hK, hD⟩⟩, hS.F ht⟩) hS.2.2 d_Primitives_put_9
/-- the picture of ColonMachine$Primitives.dropped -/
def F_Prim_dropped (dn : Int32) (x1 : Int32) : Int32 × Int32 := bd (F_Cells_drop dn x1) (fun q1 => (0, q1))
theorem F_Prim_dropped_e (dn : Int32) (x1 : Int32) : F_Prim_dropped dn x1 = bd (F_Cells_drop dn x1) (fun q1 => (0, q1)) := rfl
set_option maxHeartbeats 4000000 in
set_option maxRecDepth 100000 in
theorem c_Prim_dropped (l : Launch) (D : va_G) (cI cJ cZ cW cT : ClassId) (sz : Nat) (pp : Nat) (dd : Nat) (rr : Nat) (kc : Nat) (mm : Nat) (oo : Nat) (tt : Nat) (ww : Nat) (da : Nat) (dn : Int32) (x1 : Int32) (hid : CellsOk 64 dn) (hp : 0 ≤ x1.toInt) : Met l y_Primitives_dropped w_Primitives_dropped ({ frames := 1, cells := 0, slots := 0, locals := 21 }) (va_Pc [.ref pp, .int x1] (zP D classes (TY cI cJ cZ cW cT) [(pp, .inr (6, [.ref dd, .ref rr, .ref kc, .ref mm, .ref oo, .ref tt, .ref ww])), (dd, .inr (1, [.ref da, .int dn]))] sz)) (va_Qi (fun (r : Int32) (u : Int32) => (r, u) = F_Prim_dropped dn x1 ∧ ((CellsOk 64 u))) (fun u => zB D classes (TY cI cJ cZ cW cT) (va_A [(pp, .inr (6, [.ref dd, .ref rr, .ref kc, .ref mm, .ref oo, .ref tt, .ref ww])), (dd, .inr (1, [.ref da, .int dn]))] sz) [(pp, .inr (6, [.ref dd, .ref rr, .ref kc, .ref mm, .ref oo, .ref tt, .ref ww])), (dd, .inr (1, [.ref da, .int u]))]) (va_A [(pp, .inr (6, [.ref dd, .ref rr, .ref kc, .ref mm, .ref oo, .ref tt, .ref ww])), (dd, .inr (1, [.ref da, .int dn]))] sz)) 0 0 (va_A [(pp, .inr (6, [.ref dd, .ref rr, .ref kc, .ref mm, .ref oo, .ref tt, .ref ww])), (dd, .inr (1, [.ref da, .int dn]))] sz) := by
  refine Met.ofW (cc := b_Primitives_dropped) (maxL := 2) (ret := (some .int)) (by decide) rfl ?_
  intro p e s m args below meth c s₁ B hml hv
  obtain ⟨rfl, hsz, hP, hK, hD0, hE⟩ := hv
  have hx := B.exec
  have hb := B.bytes
  have hr := B.returns
  have hts := atoms_spec (ws := w_Primitives_dropped) B.pre
  have hT : ∀ w ∈ TB, w.before _ s = true := fun w h => hts w (List.mem_cons_of_mem _ h)
  have hown : s.vm.findClass "ColonMachine$Primitives" = some m.cls := findClass_of_methodNamed B.named
  have hlocks := B.notSynchronized
  subst hsz
  have hD := hD0.self (sz := s.heap.size)
  generalize hAe : va_A [(pp, .inr (6, [.ref dd, .ref rr, .ref kc, .ref mm, .ref oo, .ref tt, .ref ww])), (dd, .inr (1, [.ref da, .int dn]))] s.heap.size = A at hD hE ⊢
  have hA : ∀ q : Nat, s.heap.size ≤ q → A q := fun q h => by rw [← hAe]; exact Or.inr h
  have hS : va_S A s.heap s.heap [] := va_S.rf
  have hl := lv_entry [.ref pp, .int x1] (n := 2) (Nat.le_of_ble_eq_true rfl)
  rw [lg_entry_eq]
  generalize (lg_sl [.ref pp, .int x1] ++ List.replicate (2 - (lg_sl [.ref pp, .int x1]).length) Slot.unset).toArray = ls at hl ⊢
  have hl : lv_has ls 2 [(0, .ref pp), (1, .int x1)] := hl
  have hF := F_Prim_dropped_e dn x1
  refine lv_aload_n hx hb d_Primitives_dropped_0 rfl (lv_at hl 0 rfl) ?_
  refine va_get (D := D) (v := .ref dd) (C := "ColonMachine$Primitives") (T := T_Primitives) (N := 7) hx hb hT i_Primitives hown hK hP 0 rfl rfl 0 (by decide) (hT _ fl_Primitives_9) (fun _ h9 => h9) rfl d_Primitives_dropped_1 ?_
  refine lv_iload_n hx hb d_Primitives_dropped_4 rfl (lv_at hl 1 rfl) ?_
  refine kN_sv (wr := [(pp, .inr (6, [.ref dd, .ref rr, .ref kc, .ref mm, .ref oo, .ref tt, .ref ww]))]) (fun u : Int32 => [(pp, .inr (6, [.ref dd, .ref rr, .ref kc, .ref mm, .ref oo, .ref tt, .ref ww])), (dd, .inr (1, [.ref da, .int u]))]) (zV (wc := [(dd, .inr (1, [.ref da, .int dn]))]) (As := [.int x1]) (rest := []) (st0 := [.int x1, .ref dd]) ⟨hx, hb, hml, hown, hT⟩ (c_Cells_drop l D cI cJ cZ cW cT s.heap.size dd da 64 dn x1 hid hp) (cwV 1 hT (tbV ml_Primitives_149 im_Cells_drop se_Cells_drop in_Cells co_Cells_drop) rfl rfl rfl v_Cells_drop ⟨Nat.le_of_ble_eq_true rfl, Nat.le_of_ble_eq_true rfl⟩) hK hE hP hD hS hA [1] rfl rfl 0 rfl rfl rfl hl.1 rfl (Nat.le_of_ble_eq_true rfl) d_Primitives_dropped_5 ⟨Nat.le_of_ble_eq_true rfl, Nat.le_of_ble_eq_true rfl⟩) hP hD hS hA [1] [0] rfl rfl rfl (by decide) [0, 1] rfl (fun u => rfl) (fun q1 H locs e1 k1 hP hD hS => ?_)
  have hP : va_P D classes [(pp, .inr (6, [.ref dd, .ref rr, .ref kc, .ref mm, .ref oo, .ref tt, .ref ww])), (dd, .inr (1, [.ref da, .int q1]))] H := hP
  have hD : va_D A [(pp, .inr (6, [.ref dd, .ref rr, .ref kc, .ref mm, .ref oo, .ref tt, .ref ww])), (dd, .inr (1, [.ref da, .int q1]))] := hD
  have hF := hF.trans (bd_e e1)
  refine lv_iconst (v := 0) hx hb d_Primitives_dropped_8 (by decide) ?_
  exact W.iret (v := 0) hx hb hr (fun t ht hW => ⟨⟨_, _, rfl, ⟨hF.symm, k1⟩, ⟨by rw [ht]; exact hP, va_K.moved hW.alike hK, hD⟩⟩, hS.F ht⟩) hS.2.2 d_Primitives_dropped_9
/-- the picture of ColonMachine$Primitives.swap -/
def F_Prim_swap (dn : Int32) (df : Nat → Int32) : Int32 × (Nat → Int32) := bd (F_Cells_at dn df 0) (fun q1 => bd (F_Cells_at dn df 1) (fun q2 => bd (F_Cells_set dn df 0 q2) (fun q3 => bd (F_Cells_set dn q3 1 q1) (fun q4 => (0, q4)))))
theorem F_Prim_swap_e (dn : Int32) (df : Nat → Int32) : F_Prim_swap dn df = bd (F_Cells_at dn df 0) (fun q1 => bd (F_Cells_at dn df 1) (fun q2 => bd (F_Cells_set dn df 0 q2) (fun q3 => bd (F_Cells_set dn q3 1 q1) (fun q4 => (0, q4))))) := rfl
set_option maxHeartbeats 4000000 in
set_option maxRecDepth 100000 in
theorem c_Prim_swap (l : Launch) (D : va_G) (cI cJ cZ cW cT : ClassId) (sz : Nat) (pp : Nat) (dd : Nat) (rr : Nat) (kc : Nat) (mm : Nat) (oo : Nat) (tt : Nat) (ww : Nat) (da : Nat) (dn : Int32) (df : Nat → Int32) (hid : CellsOk 64 dn) : Met l y_Primitives_swap w_Primitives_swap ({ frames := 1, cells := 0, slots := 0, locals := 22 }) (va_Pc [.ref pp] (zP D classes (TY cI cJ cZ cW cT) [(pp, .inr (6, [.ref dd, .ref rr, .ref kc, .ref mm, .ref oo, .ref tt, .ref ww])), (dd, .inr (1, [.ref da, .int dn])), (da, .inl (cI, 64, .inl df))] sz)) (va_Qi (fun (r : Int32) (u : (Nat → Int32)) => (r, u) = F_Prim_swap dn df ∧ (True)) (fun u => zB D classes (TY cI cJ cZ cW cT) (va_A [(pp, .inr (6, [.ref dd, .ref rr, .ref kc, .ref mm, .ref oo, .ref tt, .ref ww])), (dd, .inr (1, [.ref da, .int dn])), (da, .inl (cI, 64, .inl df))] sz) [(pp, .inr (6, [.ref dd, .ref rr, .ref kc, .ref mm, .ref oo, .ref tt, .ref ww])), (dd, .inr (1, [.ref da, .int dn])), (da, .inl (cI, 64, .inl u))]) (va_A [(pp, .inr (6, [.ref dd, .ref rr, .ref kc, .ref mm, .ref oo, .ref tt, .ref ww])), (dd, .inr (1, [.ref da, .int dn])), (da, .inl (cI, 64, .inl df))] sz)) 0 0 (va_A [(pp, .inr (6, [.ref dd, .ref rr, .ref kc, .ref mm, .ref oo, .ref tt, .ref ww])), (dd, .inr (1, [.ref da, .int dn])), (da, .inl (cI, 64, .inl df))] sz) := by
  refine Met.ofW (cc := b_Primitives_swap) (maxL := 2) (ret := (some .int)) (by decide) rfl ?_
  intro p e s m args below meth c s₁ B hml hv
  obtain ⟨rfl, hsz, hP, hK, hD0, hE⟩ := hv
  have hx := B.exec
  have hb := B.bytes
  have hr := B.returns
  have hts := atoms_spec (ws := w_Primitives_swap) B.pre
  have hT : ∀ w ∈ TB, w.before _ s = true := fun w h => hts w (List.mem_cons_of_mem _ h)
  have hown : s.vm.findClass "ColonMachine$Primitives" = some m.cls := findClass_of_methodNamed B.named
  have hlocks := B.notSynchronized
  subst hsz
  have hD := hD0.self (sz := s.heap.size)
  generalize hAe : va_A [(pp, .inr (6, [.ref dd, .ref rr, .ref kc, .ref mm, .ref oo, .ref tt, .ref ww])), (dd, .inr (1, [.ref da, .int dn])), (da, .inl (cI, 64, .inl df))] s.heap.size = A at hD hE ⊢
  have hA : ∀ q : Nat, s.heap.size ≤ q → A q := fun q h => by rw [← hAe]; exact Or.inr h
  have hS : va_S A s.heap s.heap [] := va_S.rf
  have hl := lv_entry [.ref pp] (n := 2) (Nat.le_of_ble_eq_true rfl)
  rw [lg_entry_eq]
  generalize (lg_sl [.ref pp] ++ List.replicate (2 - (lg_sl [.ref pp]).length) Slot.unset).toArray = ls at hl ⊢
  have hl : lv_has ls 2 [(0, .ref pp)] := hl
  have hF := F_Prim_swap_e dn df
  refine lv_aload_n hx hb d_Primitives_swap_0 rfl (lv_at hl 0 rfl) ?_
  refine va_get (D := D) (v := .ref dd) (C := "ColonMachine$Primitives") (T := T_Primitives) (N := 7) hx hb hT i_Primitives hown hK hP 0 rfl rfl 0 (by decide) (hT _ fl_Primitives_9) (fun _ h9 => h9) rfl d_Primitives_swap_1 ?_
  refine lv_iconst (v := 0) hx hb d_Primitives_swap_4 (by decide) ?_
  refine kN_pi (wr := [(pp, .inr (6, [.ref dd, .ref rr, .ref kc, .ref mm, .ref oo, .ref tt, .ref ww]))]) (zV (wc := [(dd, .inr (1, [.ref da, .int dn])), (da, .inl (cI, 64, .inl df))]) (As := [.int 0]) (rest := []) (st0 := [.int 0, .ref dd]) ⟨hx, hb, hml, hown, hT⟩ (c_Cells_at l D cI cJ cZ cW cT s.heap.size dd da 64 dn df 0 hid) (cwV 1 hT (tbV ml_Primitives_116 im_Cells_at se_Cells_at in_Cells co_Cells_at) rfl rfl rfl v_Cells_at ⟨Nat.le_of_ble_eq_true rfl, Nat.le_of_ble_eq_true rfl⟩) hK hE hP hD hS hA [1, 2] rfl rfl 0 rfl rfl rfl hl.1 rfl (Nat.le_of_ble_eq_true rfl) d_Primitives_swap_5 ⟨Nat.le_of_ble_eq_true rfl, Nat.le_of_ble_eq_true rfl⟩) hP hD hS hA [1, 2] [0] rfl rfl rfl (by decide) [0, 1, 2] rfl rfl (fun q1 H locs e1 k1 hP hD hS => ?_)
  have hP : va_P D classes [(pp, .inr (6, [.ref dd, .ref rr, .ref kc, .ref mm, .ref oo, .ref tt, .ref ww])), (dd, .inr (1, [.ref da, .int dn])), (da, .inl (cI, 64, .inl df))] H := hP
  have hD : va_D A [(pp, .inr (6, [.ref dd, .ref rr, .ref kc, .ref mm, .ref oo, .ref tt, .ref ww])), (dd, .inr (1, [.ref da, .int dn])), (da, .inl (cI, 64, .inl df))] := hD
  have hF := hF.trans (bd_e e1)
  refine lv_istore_n (lv' := [(1, .int q1), (0, .ref pp)]) hx hb d_Primitives_swap_8 rfl hl (by decide) rfl (fun ls hl => ?_)
  refine lv_aload_n hx hb d_Primitives_swap_9 rfl (lv_at hl 1 rfl) ?_
  refine va_get (D := D) (v := .ref dd) (C := "ColonMachine$Primitives") (T := T_Primitives) (N := 7) hx hb hT i_Primitives hown hK hP 0 rfl rfl 0 (by decide) (hT _ fl_Primitives_9) (fun _ h9 => h9) rfl d_Primitives_swap_10 ?_
  refine lv_iconst (v := 0) hx hb d_Primitives_swap_13 (by decide) ?_
  refine lv_aload_n hx hb d_Primitives_swap_14 rfl (lv_at hl 1 rfl) ?_
  refine va_get (D := D) (v := .ref dd) (C := "ColonMachine$Primitives") (T := T_Primitives) (N := 7) hx hb hT i_Primitives hown hK hP 0 rfl rfl 0 (by decide) (hT _ fl_Primitives_9) (fun _ h9 => h9) rfl d_Primitives_swap_15 ?_
  refine lv_iconst (v := 1) hx hb d_Primitives_swap_18 (by decide) ?_
  refine kN_pi (wr := [(pp, .inr (6, [.ref dd, .ref rr, .ref kc, .ref mm, .ref oo, .ref tt, .ref ww]))]) (zV (wc := [(dd, .inr (1, [.ref da, .int dn])), (da, .inl (cI, 64, .inl df))]) (As := [.int 1]) (rest := [.int 0, .ref dd]) (st0 := [.int 1, .ref dd, .int 0, .ref dd]) ⟨hx, hb, hml, hown, hT⟩ (c_Cells_at l D cI cJ cZ cW cT H.size dd da 64 dn df 1 hid) (cwV 1 hT (tbV ml_Primitives_116 im_Cells_at se_Cells_at in_Cells co_Cells_at) rfl rfl rfl v_Cells_at ⟨Nat.le_of_ble_eq_true rfl, Nat.le_of_ble_eq_true rfl⟩) hK hE hP hD hS hA [1, 2] rfl rfl 0 rfl rfl rfl hl.1 rfl (Nat.le_of_ble_eq_true rfl) d_Primitives_swap_19 ⟨Nat.le_of_ble_eq_true rfl, Nat.le_of_ble_eq_true rfl⟩) hP hD hS hA [1, 2] [0] rfl rfl rfl (by decide) [0, 1, 2] rfl rfl (fun q2 H locs e2 k2 hP hD hS => ?_)
  have hP : va_P D classes [(pp, .inr (6, [.ref dd, .ref rr, .ref kc, .ref mm, .ref oo, .ref tt, .ref ww])), (dd, .inr (1, [.ref da, .int dn])), (da, .inl (cI, 64, .inl df))] H := hP
  have hD : va_D A [(pp, .inr (6, [.ref dd, .ref rr, .ref kc, .ref mm, .ref oo, .ref tt, .ref ww])), (dd, .inr (1, [.ref da, .int dn])), (da, .inl (cI, 64, .inl df))] := hD
  have hF := hF.trans (bd_e e2)
  refine kN_sv (wr := [(pp, .inr (6, [.ref dd, .ref rr, .ref kc, .ref mm, .ref oo, .ref tt, .ref ww]))]) (fun u : (Nat → Int32) => [(pp, .inr (6, [.ref dd, .ref rr, .ref kc, .ref mm, .ref oo, .ref tt, .ref ww])), (dd, .inr (1, [.ref da, .int dn])), (da, .inl (cI, 64, .inl u))]) (zV (wc := [(dd, .inr (1, [.ref da, .int dn])), (da, .inl (cI, 64, .inl df))]) (As := [.int 0, .int q2]) (rest := []) (st0 := [.int q2, .int 0, .ref dd]) ⟨hx, hb, hml, hown, hT⟩ (c_Cells_set l D cI cJ cZ cW cT H.size dd da 64 dn df 0 q2 hid) (cwV 2 hT (tbV ml_Primitives_152 im_Cells_set se_Cells_set in_Cells co_Cells_set) rfl rfl rfl v_Cells_set ⟨Nat.le_of_ble_eq_true rfl, Nat.le_of_ble_eq_true rfl⟩) hK hE hP hD hS hA [1, 2] rfl rfl 0 rfl rfl rfl hl.1 rfl (Nat.le_of_ble_eq_true rfl) d_Primitives_swap_22 ⟨Nat.le_of_ble_eq_true rfl, Nat.le_of_ble_eq_true rfl⟩) hP hD hS hA [1, 2] [0] rfl rfl rfl (by decide) [0, 1, 2] rfl (fun u => rfl) (fun q3 H locs e3 k3 hP hD hS => ?_)
  have hP : va_P D classes [(pp, .inr (6, [.ref dd, .ref rr, .ref kc, .ref mm, .ref oo, .ref tt, .ref ww])), (dd, .inr (1, [.ref da, .int dn])), (da, .inl (cI, 64, .inl q3))] H := hP
  have hD : va_D A [(pp, .inr (6, [.ref dd, .ref rr, .ref kc, .ref mm, .ref oo, .ref tt, .ref ww])), (dd, .inr (1, [.ref da, .int dn])), (da, .inl (cI, 64, .inl q3))] := hD
  have hF := hF.trans (bd_e e3)
  refine lv_aload_n hx hb d_Primitives_swap_25 rfl (lv_at hl 1 rfl) ?_
  refine va_get (D := D) (v := .ref dd) (C := "ColonMachine$Primitives") (T := T_Primitives) (N := 7) hx hb hT i_Primitives hown hK hP 0 rfl rfl 0 (by decide) (hT _ fl_Primitives_9) (fun _ h9 => h9) rfl d_Primitives_swap_26 ?_
  refine lv_iconst (v := 1) hx hb d_Primitives_swap_29 (by decide) ?_
  refine lv_iload_n hx hb d_Primitives_swap_30 rfl (lv_at hl 0 rfl) ?_
  refine kN_sv (wr := [(pp, .inr (6, [.ref dd, .ref rr, .ref kc, .ref mm, .ref oo, .ref tt, .ref ww]))]) (fun u : (Nat → Int32) => [(pp, .inr (6, [.ref dd, .ref rr, .ref kc, .ref mm, .ref oo, .ref tt, .ref ww])), (dd, .inr (1, [.ref da, .int dn])), (da, .inl (cI, 64, .inl u))]) (zV (wc := [(dd, .inr (1, [.ref da, .int dn])), (da, .inl (cI, 64, .inl q3))]) (As := [.int 1, .int q1]) (rest := []) (st0 := [.int q1, .int 1, .ref dd]) ⟨hx, hb, hml, hown, hT⟩ (c_Cells_set l D cI cJ cZ cW cT H.size dd da 64 dn q3 1 q1 hid) (cwV 2 hT (tbV ml_Primitives_152 im_Cells_set se_Cells_set in_Cells co_Cells_set) rfl rfl rfl v_Cells_set ⟨Nat.le_of_ble_eq_true rfl, Nat.le_of_ble_eq_true rfl⟩) hK hE hP hD hS hA [1, 2] rfl rfl 0 rfl rfl rfl hl.1 rfl (Nat.le_of_ble_eq_true rfl) d_Primitives_swap_31 ⟨Nat.le_of_ble_eq_true rfl, Nat.le_of_ble_eq_true rfl⟩) hP hD hS hA [1, 2] [0] rfl rfl rfl (by decide) [0, 1, 2] rfl (fun u => rfl) (fun q4 H locs e4 k4 hP hD hS => ?_)
  have hP : va_P D classes [(pp, .inr (6, [.ref dd, .ref rr, .ref kc, .ref mm, .ref oo, .ref tt, .ref ww])), (dd, .inr (1, [.ref da, .int dn])), (da, .inl (cI, 64, .inl q4))] H := hP
  have hD : va_D A [(pp, .inr (6, [.ref dd, .ref rr, .ref kc, .ref mm, .ref oo, .ref tt, .ref ww])), (dd, .inr (1, [.ref da, .int dn])), (da, .inl (cI, 64, .inl q4))] := hD
  have hF := hF.trans (bd_e e4)
  refine lv_iconst (v := 0) hx hb d_Primitives_swap_34 (by decide) ?_
  exact W.iret (v := 0) hx hb hr (fun t ht hW => ⟨⟨_, _, rfl, ⟨hF.symm, trivial⟩, ⟨by rw [ht]; exact hP, va_K.moved hW.alike hK, hD⟩⟩, hS.F ht⟩) hS.2.2 d_Primitives_swap_35
/-- the picture of ColonMachine$Primitives.rot -/
def F_Prim_rot (dn : Int32) (df : Nat → Int32) : Int32 × (Nat → Int32) := bd (F_Cells_at dn df 2) (fun q1 => bd (F_Cells_at dn df 1) (fun q2 => bd (F_Cells_set dn df 2 q2) (fun q3 => bd (F_Cells_at dn q3 0) (fun q4 => bd (F_Cells_set dn q3 1 q4) (fun q5 => bd (F_Cells_set dn q5 0 q1) (fun q6 => (0, q6)))))))
theorem F_Prim_rot_e (dn : Int32) (df : Nat → Int32) : F_Prim_rot dn df = bd (F_Cells_at dn df 2) (fun q1 => bd (F_Cells_at dn df 1) (fun q2 => bd (F_Cells_set dn df 2 q2) (fun q3 => bd (F_Cells_at dn q3 0) (fun q4 => bd (F_Cells_set dn q3 1 q4) (fun q5 => bd (F_Cells_set dn q5 0 q1) (fun q6 => (0, q6))))))) := rfl
set_option maxHeartbeats 4000000 in
set_option maxRecDepth 100000 in
theorem c_Prim_rot (l : Launch) (D : va_G) (cI cJ cZ cW cT : ClassId) (sz : Nat) (pp : Nat) (dd : Nat) (rr : Nat) (kc : Nat) (mm : Nat) (oo : Nat) (tt : Nat) (ww : Nat) (da : Nat) (dn : Int32) (df : Nat → Int32) (hid : CellsOk 64 dn) : Met l y_Primitives_rot w_Primitives_rot ({ frames := 1, cells := 0, slots := 0, locals := 22 }) (va_Pc [.ref pp] (zP D classes (TY cI cJ cZ cW cT) [(pp, .inr (6, [.ref dd, .ref rr, .ref kc, .ref mm, .ref oo, .ref tt, .ref ww])), (dd, .inr (1, [.ref da, .int dn])), (da, .inl (cI, 64, .inl df))] sz)) (va_Qi (fun (r : Int32) (u : (Nat → Int32)) => (r, u) = F_Prim_rot dn df ∧ (True)) (fun u => zB D classes (TY cI cJ cZ cW cT) (va_A [(pp, .inr (6, [.ref dd, .ref rr, .ref kc, .ref mm, .ref oo, .ref tt, .ref ww])), (dd, .inr (1, [.ref da, .int dn])), (da, .inl (cI, 64, .inl df))] sz) [(pp, .inr (6, [.ref dd, .ref rr, .ref kc, .ref mm, .ref oo, .ref tt, .ref ww])), (dd, .inr (1, [.ref da, .int dn])), (da, .inl (cI, 64, .inl u))]) (va_A [(pp, .inr (6, [.ref dd, .ref rr, .ref kc, .ref mm, .ref oo, .ref tt, .ref ww])), (dd, .inr (1, [.ref da, .int dn])), (da, .inl (cI, 64, .inl df))] sz)) 0 0 (va_A [(pp, .inr (6, [.ref dd, .ref rr, .ref kc, .ref mm, .ref oo, .ref tt, .ref ww])), (dd, .inr (1, [.ref da, .int dn])), (da, .inl (cI, 64, .inl df))] sz) := by
  refine Met.ofW (cc := b_Primitives_rot) (maxL := 2) (ret := (some .int)) (by decide) rfl ?_
  intro p e s m args below meth c s₁ B hml hv
  obtain ⟨rfl, hsz, hP, hK, hD0, hE⟩ := hv
  have hx := B.exec
  have hb := B.bytes
  have hr := B.returns
  have hts := atoms_spec (ws := w_Primitives_rot) B.pre
  have hT : ∀ w ∈ TB, w.before _ s = true := fun w h => hts w (List.mem_cons_of_mem _ h)
  have hown : s.vm.findClass "ColonMachine$Primitives" = some m.cls := findClass_of_methodNamed B.named
  have hlocks := B.notSynchronized
  subst hsz
  have hD := hD0.self (sz := s.heap.size)
  generalize hAe : va_A [(pp, .inr (6, [.ref dd, .ref rr, .ref kc, .ref mm, .ref oo, .ref tt, .ref ww])), (dd, .inr (1, [.ref da, .int dn])), (da, .inl (cI, 64, .inl df))] s.heap.size = A at hD hE ⊢
  have hA : ∀ q : Nat, s.heap.size ≤ q → A q := fun q h => by rw [← hAe]; exact Or.inr h
  have hS : va_S A s.heap s.heap [] := va_S.rf
  have hl := lv_entry [.ref pp] (n := 2) (Nat.le_of_ble_eq_true rfl)
  rw [lg_entry_eq]
  generalize (lg_sl [.ref pp] ++ List.replicate (2 - (lg_sl [.ref pp]).length) Slot.unset).toArray = ls at hl ⊢
  have hl : lv_has ls 2 [(0, .ref pp)] := hl
  have hF := F_Prim_rot_e dn df
  refine lv_aload_n hx hb d_Primitives_rot_0 rfl (lv_at hl 0 rfl) ?_
  refine va_get (D := D) (v := .ref dd) (C := "ColonMachine$Primitives") (T := T_Primitives) (N := 7) hx hb hT i_Primitives hown hK hP 0 rfl rfl 0 (by decide) (hT _ fl_Primitives_9) (fun _ h9 => h9) rfl d_Primitives_rot_1 ?_
  refine lv_iconst (v := 2) hx hb d_Primitives_rot_4 (by decide) ?_
  refine kN_pi (wr := [(pp, .inr (6, [.ref dd, .ref rr, .ref kc, .ref mm, .ref oo, .ref tt, .ref ww]))]) (zV (wc := [(dd, .inr (1, [.ref da, .int dn])), (da, .inl (cI, 64, .inl df))]) (As := [.int 2]) (rest := []) (st0 := [.int 2, .ref dd]) ⟨hx, hb, hml, hown, hT⟩ (c_Cells_at l D cI cJ cZ cW cT s.heap.size dd da 64 dn df 2 hid) (cwV 1 hT (tbV ml_Primitives_116 im_Cells_at se_Cells_at in_Cells co_Cells_at) rfl rfl rfl v_Cells_at ⟨Nat.le_of_ble_eq_true rfl, Nat.le_of_ble_eq_true rfl⟩) hK hE hP hD hS hA [1, 2] rfl rfl 0 rfl rfl rfl hl.1 rfl (Nat.le_of_ble_eq_true rfl) d_Primitives_rot_5 ⟨Nat.le_of_ble_eq_true rfl, Nat.le_of_ble_eq_true rfl⟩) hP hD hS hA [1, 2] [0] rfl rfl rfl (by decide) [0, 1, 2] rfl rfl (fun q1 H locs e1 k1 hP hD hS => ?_)
  have hP : va_P D classes [(pp, .inr (6, [.ref dd, .ref rr, .ref kc, .ref mm, .ref oo, .ref tt, .ref ww])), (dd, .inr (1, [.ref da, .int dn])), (da, .inl (cI, 64, .inl df))] H := hP
  have hD : va_D A [(pp, .inr (6, [.ref dd, .ref rr, .ref kc, .ref mm, .ref oo, .ref tt, .ref ww])), (dd, .inr (1, [.ref da, .int dn])), (da, .inl (cI, 64, .inl df))] := hD
  have hF := hF.trans (bd_e e1)
  refine lv_istore_n (lv' := [(1, .int q1), (0, .ref pp)]) hx hb d_Primitives_rot_8 rfl hl (by decide) rfl (fun ls hl => ?_)
  refine lv_aload_n hx hb d_Primitives_rot_9 rfl (lv_at hl 1 rfl) ?_
  refine va_get (D := D) (v := .ref dd) (C := "ColonMachine$Primitives") (T := T_Primitives) (N := 7) hx hb hT i_Primitives hown hK hP 0 rfl rfl 0 (by decide) (hT _ fl_Primitives_9) (fun _ h9 => h9) rfl d_Primitives_rot_10 ?_
  refine lv_iconst (v := 2) hx hb d_Primitives_rot_13 (by decide) ?_
  refine lv_aload_n hx hb d_Primitives_rot_14 rfl (lv_at hl 1 rfl) ?_
  refine va_get (D := D) (v := .ref dd) (C := "ColonMachine$Primitives") (T := T_Primitives) (N := 7) hx hb hT i_Primitives hown hK hP 0 rfl rfl 0 (by decide) (hT _ fl_Primitives_9) (fun _ h9 => h9) rfl d_Primitives_rot_15 ?_
  refine lv_iconst (v := 1) hx hb d_Primitives_rot_18 (by decide) ?_
  refine kN_pi (wr := [(pp, .inr (6, [.ref dd, .ref rr, .ref kc, .ref mm, .ref oo, .ref tt, .ref ww]))]) (zV (wc := [(dd, .inr (1, [.ref da, .int dn])), (da, .inl (cI, 64, .inl df))]) (As := [.int 1]) (rest := [.int 2, .ref dd]) (st0 := [.int 1, .ref dd, .int 2, .ref dd]) ⟨hx, hb, hml, hown, hT⟩ (c_Cells_at l D cI cJ cZ cW cT H.size dd da 64 dn df 1 hid) (cwV 1 hT (tbV ml_Primitives_116 im_Cells_at se_Cells_at in_Cells co_Cells_at) rfl rfl rfl v_Cells_at ⟨Nat.le_of_ble_eq_true rfl, Nat.le_of_ble_eq_true rfl⟩) hK hE hP hD hS hA [1, 2] rfl rfl 0 rfl rfl rfl hl.1 rfl (Nat.le_of_ble_eq_true rfl) d_Primitives_rot_19 ⟨Nat.le_of_ble_eq_true rfl, Nat.le_of_ble_eq_true rfl⟩) hP hD hS hA [1, 2] [0] rfl rfl rfl (by decide) [0, 1, 2] rfl rfl (fun q2 H locs e2 k2 hP hD hS => ?_)
  have hP : va_P D classes [(pp, .inr (6, [.ref dd, .ref rr, .ref kc, .ref mm, .ref oo, .ref tt, .ref ww])), (dd, .inr (1, [.ref da, .int dn])), (da, .inl (cI, 64, .inl df))] H := hP
  have hD : va_D A [(pp, .inr (6, [.ref dd, .ref rr, .ref kc, .ref mm, .ref oo, .ref tt, .ref ww])), (dd, .inr (1, [.ref da, .int dn])), (da, .inl (cI, 64, .inl df))] := hD
  have hF := hF.trans (bd_e e2)
  refine kN_sv (wr := [(pp, .inr (6, [.ref dd, .ref rr, .ref kc, .ref mm, .ref oo, .ref tt, .ref ww]))]) (fun u : (Nat → Int32) => [(pp, .inr (6, [.ref dd, .ref rr, .ref kc, .ref mm, .ref oo, .ref tt, .ref ww])), (dd, .inr (1, [.ref da, .int dn])), (da, .inl (cI, 64, .inl u))]) (zV (wc := [(dd, .inr (1, [.ref da, .int dn])), (da, .inl (cI, 64, .inl df))]) (As := [.int 2, .int q2]) (rest := []) (st0 := [.int q2, .int 2, .ref dd]) ⟨hx, hb, hml, hown, hT⟩ (c_Cells_set l D cI cJ cZ cW cT H.size dd da 64 dn df 2 q2 hid) (cwV 2 hT (tbV ml_Primitives_152 im_Cells_set se_Cells_set in_Cells co_Cells_set) rfl rfl rfl v_Cells_set ⟨Nat.le_of_ble_eq_true rfl, Nat.le_of_ble_eq_true rfl⟩) hK hE hP hD hS hA [1, 2] rfl rfl 0 rfl rfl rfl hl.1 rfl (Nat.le_of_ble_eq_true rfl) d_Primitives_rot_22 ⟨Nat.le_of_ble_eq_true rfl, Nat.le_of_ble_eq_true rfl⟩) hP hD hS hA [1, 2] [0] rfl rfl rfl (by decide) [0, 1, 2] rfl (fun u => rfl) (fun q3 H locs e3 k3 hP hD hS => ?_)
  have hP : va_P D classes [(pp, .inr (6, [.ref dd, .ref rr, .ref kc, .ref mm, .ref oo, .ref tt, .ref ww])), (dd, .inr (1, [.ref da, .int dn])), (da, .inl (cI, 64, .inl q3))] H := hP
  have hD : va_D A [(pp, .inr (6, [.ref dd, .ref rr, .ref kc, .ref mm, .ref oo, .ref tt, .ref ww])), (dd, .inr (1, [.ref da, .int dn])), (da, .inl (cI, 64, .inl q3))] := hD
  have hF := hF.trans (bd_e e3)
  refine lv_aload_n hx hb d_Primitives_rot_25 rfl (lv_at hl 1 rfl) ?_
  refine va_get (D := D) (v := .ref dd) (C := "ColonMachine$Primitives") (T := T_Primitives) (N := 7) hx hb hT i_Primitives hown hK hP 0 rfl rfl 0 (by decide) (hT _ fl_Primitives_9) (fun _ h9 => h9) rfl d_Primitives_rot_26 ?_
  refine lv_iconst (v := 1) hx hb d_Primitives_rot_29 (by decide) ?_
  refine lv_aload_n hx hb d_Primitives_rot_30 rfl (lv_at hl 1 rfl) ?_
  refine va_get (D := D) (v := .ref dd) (C := "ColonMachine$Primitives") (T := T_Primitives) (N := 7) hx hb hT i_Primitives hown hK hP 0 rfl rfl 0 (by decide) (hT _ fl_Primitives_9) (fun _ h9 => h9) rfl d_Primitives_rot_31 ?_
  refine lv_iconst (v := 0) hx hb d_Primitives_rot_34 (by decide) ?_
  refine kN_pi (wr := [(pp, .inr (6, [.ref dd, .ref rr, .ref kc, .ref mm, .ref oo, .ref tt, .ref ww]))]) (zV (wc := [(dd, .inr (1, [.ref da, .int dn])), (da, .inl (cI, 64, .inl q3))]) (As := [.int 0]) (rest := [.int 1, .ref dd]) (st0 := [.int 0, .ref dd, .int 1, .ref dd]) ⟨hx, hb, hml, hown, hT⟩ (c_Cells_at l D cI cJ cZ cW cT H.size dd da 64 dn q3 0 hid) (cwV 1 hT (tbV ml_Primitives_116 im_Cells_at se_Cells_at in_Cells co_Cells_at) rfl rfl rfl v_Cells_at ⟨Nat.le_of_ble_eq_true rfl, Nat.le_of_ble_eq_true rfl⟩) hK hE hP hD hS hA [1, 2] rfl rfl 0 rfl rfl rfl hl.1 rfl (Nat.le_of_ble_eq_true rfl) d_Primitives_rot_35 ⟨Nat.le_of_ble_eq_true rfl, Nat.le_of_ble_eq_true rfl⟩) hP hD hS hA [1, 2] [0] rfl rfl rfl (by decide) [0, 1, 2] rfl rfl (fun q4 H locs e4 k4 hP hD hS => ?_)
  have hP : va_P D classes [(pp, .inr (6, [.ref dd, .ref rr, .ref kc, .ref mm, .ref oo, .ref tt, .ref ww])), (dd, .inr (1, [.ref da, .int dn])), (da, .inl (cI, 64, .inl q3))] H := hP
  have hD : va_D A [(pp, .inr (6, [.ref dd, .ref rr, .ref kc, .ref mm, .ref oo, .ref tt, .ref ww])), (dd, .inr (1, [.ref da, .int dn])), (da, .inl (cI, 64, .inl q3))] := hD
  have hF := hF.trans (bd_e e4)
  refine kN_sv (wr := [(pp, .inr (6, [.ref dd, .ref rr, .ref kc, .ref mm, .ref oo, .ref tt, .ref ww]))]) (fun u : (Nat → Int32) => [(pp, .inr (6, [.ref dd, .ref rr, .ref kc, .ref mm, .ref oo, .ref tt, .ref ww])), (dd, .inr (1, [.ref da, .int dn])), (da, .inl (cI, 64, .inl u))]) (zV (wc := [(dd, .inr (1, [.ref da, .int dn])), (da, .inl (cI, 64, .inl q3))]) (As := [.int 1, .int q4]) (rest := []) (st0 := [.int q4, .int 1, .ref dd]) ⟨hx, hb, hml, hown, hT⟩ (c_Cells_set l D cI cJ cZ cW cT H.size dd da 64 dn q3 1 q4 hid) (cwV 2 hT (tbV ml_Primitives_152 im_Cells_set se_Cells_set in_Cells co_Cells_set) rfl rfl rfl v_Cells_set ⟨Nat.le_of_ble_eq_true rfl, Nat.le_of_ble_eq_true rfl⟩) hK hE hP hD hS hA [1, 2] rfl rfl 0 rfl rfl rfl hl.1 rfl (Nat.le_of_ble_eq_true rfl) d_Primitives_rot_38 ⟨Nat.le_of_ble_eq_true rfl, Nat.le_of_ble_eq_true rfl⟩) hP hD hS hA [1, 2] [0] rfl rfl rfl (by decide) [0, 1, 2] rfl (fun u => rfl) (fun q5 H locs e5 k5 hP hD hS => ?_)
  have hP : va_P D classes [(pp, .inr (6, [.ref dd, .ref rr, .ref kc, .ref mm, .ref oo, .ref tt, .ref ww])), (dd, .inr (1, [.ref da, .int dn])), (da, .inl (cI, 64, .inl q5))] H := hP
  have hD : va_D A [(pp, .inr (6, [.ref dd, .ref rr, .ref kc, .ref mm, .ref oo, .ref tt, .ref ww])), (dd, .inr (1, [.ref da, .int dn])), (da, .inl (cI, 64, .inl q5))] := hD
  have hF := hF.trans (bd_e e5)
  refine lv_aload_n hx hb d_Primitives_rot_41 rfl (lv_at hl 1 rfl) ?_
  refine va_get (D := D) (v := .ref dd) (C := "ColonMachine$Primitives") (T := T_Primitives) (N := 7) hx hb hT i_Primitives hown hK hP 0 rfl rfl 0 (by decide) (hT _ fl_Primitives_9) (fun _ h9 => h9) rfl d_Primitives_rot_42 ?_
  refine lv_iconst (v := 0) hx hb d_Primitives_rot_45 (by decide) ?_
  refine lv_iload_n hx hb d_Primitives_rot_46 rfl (lv_at hl 0 rfl) ?_
  refine kN_sv (wr := [(pp, .inr (6, [.ref dd, .ref rr, .ref kc, .ref mm, .ref oo, .ref tt, .ref ww]))]) (fun u : (Nat → Int32) => [(pp, .inr (6, [.ref dd, .ref rr, .ref kc, .ref mm, .ref oo, .ref tt, .ref ww])), (dd, .inr (1, [.ref da, .int dn])), (da, .inl (cI, 64, .inl u))]) (zV (wc := [(dd, .inr (1, [.ref da, .int dn])), (da, .inl (cI, 64, .inl q5))]) (As := [.int 0, .int q1]) (rest := []) (st0 := [.int q1, .int 0, .ref dd]) ⟨hx, hb, hml, hown, hT⟩ (c_Cells_set l D cI cJ cZ cW cT H.size dd da 64 dn q5 0 q1 hid) (cwV 2 hT (tbV ml_Primitives_152 im_Cells_set se_Cells_set in_Cells co_Cells_set) rfl rfl rfl v_Cells_set ⟨Nat.le_of_ble_eq_true rfl, Nat.le_of_ble_eq_true rfl⟩) hK hE hP hD hS hA [1, 2] rfl rfl 0 rfl rfl rfl hl.1 rfl (Nat.le_of_ble_eq_true rfl) d_Primitives_rot_47 ⟨Nat.le_of_ble_eq_true rfl, Nat.le_of_ble_eq_true rfl⟩) hP hD hS hA [1, 2] [0] rfl rfl rfl (by decide) [0, 1, 2] rfl (fun u => rfl) (fun q6 H locs e6 k6 hP hD hS => ?_)
  have hP : va_P D classes [(pp, .inr (6, [.ref dd, .ref rr, .ref kc, .ref mm, .ref oo, .ref tt, .ref ww])), (dd, .inr (1, [.ref da, .int dn])), (da, .inl (cI, 64, .inl q6))] H := hP
  have hD : va_D A [(pp, .inr (6, [.ref dd, .ref rr, .ref kc, .ref mm, .ref oo, .ref tt, .ref ww])), (dd, .inr (1, [.ref da, .int dn])), (da, .inl (cI, 64, .inl q6))] := hD
  have hF := hF.trans (bd_e e6)
  refine lv_iconst (v := 0) hx hb d_Primitives_rot_50 (by decide) ?_
  exact W.iret (v := 0) hx hb hr (fun t ht hW => ⟨⟨_, _, rfl, ⟨hF.symm, trivial⟩, ⟨by rw [ht]; exact hP, va_K.moved hW.alike hK, hD⟩⟩, hS.F ht⟩) hS.2.2 d_Primitives_rot_51
/-- the picture of ColonMachine$Primitives.nip -/
def F_Prim_nip (dn : Int32) (df : Nat → Int32) : Int32 × Int32 × (Nat → Int32) := bd (F_Cells_take dn df) (fun q1 => bd (F_Cells_set q1.2 df 0 q1.1) (fun q2 => (0, (q1.2, q2))))
theorem F_Prim_nip_e (dn : Int32) (df : Nat → Int32) : F_Prim_nip dn df = bd (F_Cells_take dn df) (fun q1 => bd (F_Cells_set q1.2 df 0 q1.1) (fun q2 => (0, (q1.2, q2)))) := rfl
set_option maxHeartbeats 4000000 in
set_option maxRecDepth 100000 in
theorem c_Prim_nip (l : Launch) (D : va_G) (cI cJ cZ cW cT : ClassId) (sz : Nat) (pp : Nat) (dd : Nat) (rr : Nat) (kc : Nat) (mm : Nat) (oo : Nat) (tt : Nat) (ww : Nat) (da : Nat) (dn : Int32) (df : Nat → Int32) (hid : CellsOk 64 dn) : Met l y_Primitives_nip w_Primitives_nip ({ frames := 1, cells := 0, slots := 0, locals := 22 }) (va_Pc [.ref pp] (zP D classes (TY cI cJ cZ cW cT) [(pp, .inr (6, [.ref dd, .ref rr, .ref kc, .ref mm, .ref oo, .ref tt, .ref ww])), (dd, .inr (1, [.ref da, .int dn])), (da, .inl (cI, 64, .inl df))] sz)) (va_Qi (fun (r : Int32) (u : Int32 × (Nat → Int32)) => (r, u) = F_Prim_nip dn df ∧ ((CellsOk 64 u.1))) (fun u => zB D classes (TY cI cJ cZ cW cT) (va_A [(pp, .inr (6, [.ref dd, .ref rr, .ref kc, .ref mm, .ref oo, .ref tt, .ref ww])), (dd, .inr (1, [.ref da, .int dn])), (da, .inl (cI, 64, .inl df))] sz) [(pp, .inr (6, [.ref dd, .ref rr, .ref kc, .ref mm, .ref oo, .ref tt, .ref ww])), (dd, .inr (1, [.ref da, .int u.1])), (da, .inl (cI, 64, .inl u.2))]) (va_A [(pp, .inr (6, [.ref dd, .ref rr, .ref kc, .ref mm, .ref oo, .ref tt, .ref ww])), (dd, .inr (1, [.ref da, .int dn])), (da, .inl (cI, 64, .inl df))] sz)) 0 0 (va_A [(pp, .inr (6, [.ref dd, .ref rr, .ref kc, .ref mm, .ref oo, .ref tt, .ref ww])), (dd, .inr (1, [.ref da, .int dn])), (da, .inl (cI, 64, .inl df))] sz) := by
  refine Met.ofW (cc := b_Primitives_nip) (maxL := 2) (ret := (some .int)) (by decide) rfl ?_
  intro p e s m args below meth c s₁ B hml hv
  obtain ⟨rfl, hsz, hP, hK, hD0, hE⟩ := hv
  have hx := B.exec
  have hb := B.bytes
  have hr := B.returns
  have hts := atoms_spec (ws := w_Primitives_nip) B.pre
  have hT : ∀ w ∈ TB, w.before _ s = true := fun w h => hts w (List.mem_cons_of_mem _ h)
  have hown : s.vm.findClass "ColonMachine$Primitives" = some m.cls := findClass_of_methodNamed B.named
  have hlocks := B.notSynchronized
  subst hsz
  have hD := hD0.self (sz := s.heap.size)
  generalize hAe : va_A [(pp, .inr (6, [.ref dd, .ref rr, .ref kc, .ref mm, .ref oo, .ref tt, .ref ww])), (dd, .inr (1, [.ref da, .int dn])), (da, .inl (cI, 64, .inl df))] s.heap.size = A at hD hE ⊢
  have hA : ∀ q : Nat, s.heap.size ≤ q → A q := fun q h => by rw [← hAe]; exact Or.inr h
  have hS : va_S A s.heap s.heap [] := va_S.rf
  have hl := lv_entry [.ref pp] (n := 2) (Nat.le_of_ble_eq_true rfl)
  rw [lg_entry_eq]
  generalize (lg_sl [.ref pp] ++ List.replicate (2 - (lg_sl [.ref pp]).length) Slot.unset).toArray = ls at hl ⊢
  have hl : lv_has ls 2 [(0, .ref pp)] := hl
  have hF := F_Prim_nip_e dn df
  refine lv_aload_n hx hb d_Primitives_nip_0 rfl (lv_at hl 0 rfl) ?_
  refine va_get (D := D) (v := .ref dd) (C := "ColonMachine$Primitives") (T := T_Primitives) (N := 7) hx hb hT i_Primitives hown hK hP 0 rfl rfl 0 (by decide) (hT _ fl_Primitives_9) (fun _ h9 => h9) rfl d_Primitives_nip_1 ?_
  refine kN_si (wr := [(pp, .inr (6, [.ref dd, .ref rr, .ref kc, .ref mm, .ref oo, .ref tt, .ref ww]))]) (fun u : Int32 => [(pp, .inr (6, [.ref dd, .ref rr, .ref kc, .ref mm, .ref oo, .ref tt, .ref ww])), (dd, .inr (1, [.ref da, .int u])), (da, .inl (cI, 64, .inl df))]) (zV (wc := [(dd, .inr (1, [.ref da, .int dn])), (da, .inl (cI, 64, .inl df))]) (As := []) (rest := []) (st0 := [.ref dd]) ⟨hx, hb, hml, hown, hT⟩ (c_Cells_take l D cI cJ cZ cW cT s.heap.size dd da 64 dn df hid) (cwV 0 hT (tbV ml_Primitives_64 im_Cells_take se_Cells_take in_Cells co_Cells_take) rfl rfl rfl v_Cells_take ⟨Nat.le_of_ble_eq_true rfl, Nat.le_of_ble_eq_true rfl⟩) hK hE hP hD hS hA [1, 2] rfl rfl 0 rfl rfl rfl hl.1 rfl (Nat.le_of_ble_eq_true rfl) d_Primitives_nip_4 ⟨Nat.le_of_ble_eq_true rfl, Nat.le_of_ble_eq_true rfl⟩) hP hD hS hA [1, 2] [0] rfl rfl rfl (by decide) [0, 1, 2] rfl (fun u => rfl) (fun q1 H locs e1 k1 hP hD hS => ?_)
  have hP : va_P D classes [(pp, .inr (6, [.ref dd, .ref rr, .ref kc, .ref mm, .ref oo, .ref tt, .ref ww])), (dd, .inr (1, [.ref da, .int q1.2])), (da, .inl (cI, 64, .inl df))] H := hP
  have hD : va_D A [(pp, .inr (6, [.ref dd, .ref rr, .ref kc, .ref mm, .ref oo, .ref tt, .ref ww])), (dd, .inr (1, [.ref da, .int q1.2])), (da, .inl (cI, 64, .inl df))] := hD
  have hF := hF.trans (bd_e e1)
  refine lv_istore_n (lv' := [(1, .int q1.1), (0, .ref pp)]) hx hb d_Primitives_nip_7 rfl hl (by decide) rfl (fun ls hl => ?_)
  refine lv_aload_n hx hb d_Primitives_nip_8 rfl (lv_at hl 1 rfl) ?_
  refine va_get (D := D) (v := .ref dd) (C := "ColonMachine$Primitives") (T := T_Primitives) (N := 7) hx hb hT i_Primitives hown hK hP 0 rfl rfl 0 (by decide) (hT _ fl_Primitives_9) (fun _ h9 => h9) rfl d_Primitives_nip_9 ?_
  refine lv_iconst (v := 0) hx hb d_Primitives_nip_12 (by decide) ?_
  refine lv_iload_n hx hb d_Primitives_nip_13 rfl (lv_at hl 0 rfl) ?_
  refine kN_sv (wr := [(pp, .inr (6, [.ref dd, .ref rr, .ref kc, .ref mm, .ref oo, .ref tt, .ref ww]))]) (fun u : (Nat → Int32) => [(pp, .inr (6, [.ref dd, .ref rr, .ref kc, .ref mm, .ref oo, .ref tt, .ref ww])), (dd, .inr (1, [.ref da, .int q1.2])), (da, .inl (cI, 64, .inl u))]) (zV (wc := [(dd, .inr (1, [.ref da, .int q1.2])), (da, .inl (cI, 64, .inl df))]) (As := [.int 0, .int q1.1]) (rest := []) (st0 := [.int q1.1, .int 0, .ref dd]) ⟨hx, hb, hml, hown, hT⟩ (c_Cells_set l D cI cJ cZ cW cT H.size dd da 64 q1.2 df 0 q1.1 k1) (cwV 2 hT (tbV ml_Primitives_152 im_Cells_set se_Cells_set in_Cells co_Cells_set) rfl rfl rfl v_Cells_set ⟨Nat.le_of_ble_eq_true rfl, Nat.le_of_ble_eq_true rfl⟩) hK hE hP hD hS hA [1, 2] rfl rfl 0 rfl rfl rfl hl.1 rfl (Nat.le_of_ble_eq_true rfl) d_Primitives_nip_14 ⟨Nat.le_of_ble_eq_true rfl, Nat.le_of_ble_eq_true rfl⟩) hP hD hS hA [1, 2] [0] rfl rfl rfl (by decide) [0, 1, 2] rfl (fun u => rfl) (fun q2 H locs e2 k2 hP hD hS => ?_)
  have hP : va_P D classes [(pp, .inr (6, [.ref dd, .ref rr, .ref kc, .ref mm, .ref oo, .ref tt, .ref ww])), (dd, .inr (1, [.ref da, .int q1.2])), (da, .inl (cI, 64, .inl q2))] H := hP
  have hD : va_D A [(pp, .inr (6, [.ref dd, .ref rr, .ref kc, .ref mm, .ref oo, .ref tt, .ref ww])), (dd, .inr (1, [.ref da, .int q1.2])), (da, .inl (cI, 64, .inl q2))] := hD
  have hF := hF.trans (bd_e e2)
  refine lv_iconst (v := 0) hx hb d_Primitives_nip_17 (by decide) ?_
  exact W.iret (v := 0) hx hb hr (fun t ht hW => ⟨⟨_, _, rfl, ⟨hF.symm, k1⟩, ⟨by rw [ht]; exact hP, va_K.moved hW.alike hK, hD⟩⟩, hS.F ht⟩) hS.2.2 d_Primitives_nip_18
/-- the picture of ColonMachine$Primitives.tuck -/
def F_Prim_tuck (dn : Int32) (df : Nat → Int32) : Int32 × Int32 × (Nat → Int32) := bd (F_Prim_swap dn df) (fun q1 => bd (F_Cells_at dn q1.2 1) (fun q2 => bd (F_Prim_put dn q1.2 q2) (fun q3 => (q3.1, (q3.2.1, q3.2.2)))))
theorem F_Prim_tuck_e (dn : Int32) (df : Nat → Int32) : F_Prim_tuck dn df = bd (F_Prim_swap dn df) (fun q1 => bd (F_Cells_at dn q1.2 1) (fun q2 => bd (F_Prim_put dn q1.2 q2) (fun q3 => (q3.1, (q3.2.1, q3.2.2))))) := rfl
set_option maxHeartbeats 4000000 in
set_option maxRecDepth 100000 in
theorem c_Prim_tuck (l : Launch) (D : va_G) (cI cJ cZ cW cT : ClassId) (sz : Nat) (pp : Nat) (dd : Nat) (rr : Nat) (kc : Nat) (mm : Nat) (oo : Nat) (tt : Nat) (ww : Nat) (da : Nat) (dn : Int32) (df : Nat → Int32) (hid : CellsOk 64 dn) : Met l y_Primitives_tuck w_Primitives_tuck ({ frames := 2, cells := 0, slots := 0, locals := 43 }) (va_Pc [.ref pp] (zP D classes (TY cI cJ cZ cW cT) [(pp, .inr (6, [.ref dd, .ref rr, .ref kc, .ref mm, .ref oo, .ref tt, .ref ww])), (dd, .inr (1, [.ref da, .int dn])), (da, .inl (cI, 64, .inl df))] sz)) (va_Qi (fun (r : Int32) (u : Int32 × (Nat → Int32)) => (r, u) = F_Prim_tuck dn df ∧ ((CellsOk 64 u.1))) (fun u => zB D classes (TY cI cJ cZ cW cT) (va_A [(pp, .inr (6, [.ref dd, .ref rr, .ref kc, .ref mm, .ref oo, .ref tt, .ref ww])), (dd, .inr (1, [.ref da, .int dn])), (da, .inl (cI, 64, .inl df))] sz) [(pp, .inr (6, [.ref dd, .ref rr, .ref kc, .ref mm, .ref oo, .ref tt, .ref ww])), (dd, .inr (1, [.ref da, .int u.1])), (da, .inl (cI, 64, .inl u.2))]) (va_A [(pp, .inr (6, [.ref dd, .ref rr, .ref kc, .ref mm, .ref oo, .ref tt, .ref ww])), (dd, .inr (1, [.ref da, .int dn])), (da, .inl (cI, 64, .inl df))] sz)) 0 0 (va_A [(pp, .inr (6, [.ref dd, .ref rr, .ref kc, .ref mm, .ref oo, .ref tt, .ref ww])), (dd, .inr (1, [.ref da, .int dn])), (da, .inl (cI, 64, .inl df))] sz) := by
  refine Met.ofW (cc := b_Primitives_tuck) (maxL := 1) (ret := (some .int)) (by decide) rfl ?_
  intro p e s m args below meth c s₁ B hml hv
  obtain ⟨rfl, hsz, hP, hK, hD0, hE⟩ := hv
  have hx := B.exec
  have hb := B.bytes
  have hr := B.returns
  have hts := atoms_spec (ws := w_Primitives_tuck) B.pre
  have hT : ∀ w ∈ TB, w.before _ s = true := fun w h => hts w (List.mem_cons_of_mem _ h)
  have hown : s.vm.findClass "ColonMachine$Primitives" = some m.cls := findClass_of_methodNamed B.named
  have hlocks := B.notSynchronized
  subst hsz
  have hD := hD0.self (sz := s.heap.size)
  generalize hAe : va_A [(pp, .inr (6, [.ref dd, .ref rr, .ref kc, .ref mm, .ref oo, .ref tt, .ref ww])), (dd, .inr (1, [.ref da, .int dn])), (da, .inl (cI, 64, .inl df))] s.heap.size = A at hD hE ⊢
  have hA : ∀ q : Nat, s.heap.size ≤ q → A q := fun q h => by rw [← hAe]; exact Or.inr h
  have hS : va_S A s.heap s.heap [] := va_S.rf
  have hl := lv_entry [.ref pp] (n := 1) (Nat.le_of_ble_eq_true rfl)
  rw [lg_entry_eq]
  generalize (lg_sl [.ref pp] ++ List.replicate (1 - (lg_sl [.ref pp]).length) Slot.unset).toArray = ls at hl ⊢
  have hl : lv_has ls 1 [(0, .ref pp)] := hl
  have hF := F_Prim_tuck_e dn df
  refine lv_aload_n hx hb d_Primitives_tuck_0 rfl (lv_at hl 0 rfl) ?_
  refine kN_si (wr := []) (fun u : (Nat → Int32) => [(pp, .inr (6, [.ref dd, .ref rr, .ref kc, .ref mm, .ref oo, .ref tt, .ref ww])), (dd, .inr (1, [.ref da, .int dn])), (da, .inl (cI, 64, .inl u))]) (zV (wc := [(pp, .inr (6, [.ref dd, .ref rr, .ref kc, .ref mm, .ref oo, .ref tt, .ref ww])), (dd, .inr (1, [.ref da, .int dn])), (da, .inl (cI, 64, .inl df))]) (As := []) (rest := []) (st0 := [.ref pp]) ⟨hx, hb, hml, hown, hT⟩ (c_Prim_swap l D cI cJ cZ cW cT s.heap.size pp dd rr kc mm oo tt ww da dn df hid) (cwV 0 hT (tbV ml_Primitives_125 im_Primitives_swap se_Primitives_swap in_Primitives co_Primitives_swap) rfl rfl rfl v_Primitives_swap ⟨Nat.le_of_ble_eq_true rfl, Nat.le_of_ble_eq_true rfl⟩) hK hE hP hD hS hA [0, 1, 2] rfl rfl 0 rfl rfl rfl hl.1 rfl (Nat.le_of_ble_eq_true rfl) d_Primitives_tuck_1 ⟨Nat.le_of_ble_eq_true rfl, Nat.le_of_ble_eq_true rfl⟩) hP hD hS hA [0, 1, 2] [] rfl rfl rfl (by decide) [0, 1, 2] rfl (fun u => rfl) (fun q1 H locs e1 k1 hP hD hS => ?_)
  have hP : va_P D classes [(pp, .inr (6, [.ref dd, .ref rr, .ref kc, .ref mm, .ref oo, .ref tt, .ref ww])), (dd, .inr (1, [.ref da, .int dn])), (da, .inl (cI, 64, .inl q1.2))] H := hP
  have hD : va_D A [(pp, .inr (6, [.ref dd, .ref rr, .ref kc, .ref mm, .ref oo, .ref tt, .ref ww])), (dd, .inr (1, [.ref da, .int dn])), (da, .inl (cI, 64, .inl q1.2))] := hD
  have hF := hF.trans (bd_e e1)
  refine lv_pop hx hb d_Primitives_tuck_4 rfl ?_
  refine lv_aload_n hx hb d_Primitives_tuck_5 rfl (lv_at hl 0 rfl) ?_
  refine lv_aload_n hx hb d_Primitives_tuck_6 rfl (lv_at hl 0 rfl) ?_
  refine va_get (D := D) (v := .ref dd) (C := "ColonMachine$Primitives") (T := T_Primitives) (N := 7) hx hb hT i_Primitives hown hK hP 0 rfl rfl 0 (by decide) (hT _ fl_Primitives_9) (fun _ h9 => h9) rfl d_Primitives_tuck_7 ?_
  refine lv_iconst (v := 1) hx hb d_Primitives_tuck_10 (by decide) ?_
  refine kN_pi (wr := [(pp, .inr (6, [.ref dd, .ref rr, .ref kc, .ref mm, .ref oo, .ref tt, .ref ww]))]) (zV (wc := [(dd, .inr (1, [.ref da, .int dn])), (da, .inl (cI, 64, .inl q1.2))]) (As := [.int 1]) (rest := [.ref pp]) (st0 := [.int 1, .ref dd, .ref pp]) ⟨hx, hb, hml, hown, hT⟩ (c_Cells_at l D cI cJ cZ cW cT H.size dd da 64 dn q1.2 1 hid) (cwV 1 hT (tbV ml_Primitives_116 im_Cells_at se_Cells_at in_Cells co_Cells_at) rfl rfl rfl v_Cells_at ⟨Nat.le_of_ble_eq_true rfl, Nat.le_of_ble_eq_true rfl⟩) hK hE hP hD hS hA [1, 2] rfl rfl 0 rfl rfl rfl hl.1 rfl (Nat.le_of_ble_eq_true rfl) d_Primitives_tuck_11 ⟨Nat.le_of_ble_eq_true rfl, Nat.le_of_ble_eq_true rfl⟩) hP hD hS hA [1, 2] [0] rfl rfl rfl (by decide) [0, 1, 2] rfl rfl (fun q2 H locs e2 k2 hP hD hS => ?_)
  have hP : va_P D classes [(pp, .inr (6, [.ref dd, .ref rr, .ref kc, .ref mm, .ref oo, .ref tt, .ref ww])), (dd, .inr (1, [.ref da, .int dn])), (da, .inl (cI, 64, .inl q1.2))] H := hP
  have hD : va_D A [(pp, .inr (6, [.ref dd, .ref rr, .ref kc, .ref mm, .ref oo, .ref tt, .ref ww])), (dd, .inr (1, [.ref da, .int dn])), (da, .inl (cI, 64, .inl q1.2))] := hD
  have hF := hF.trans (bd_e e2)
  refine kN_si (wr := []) (fun u : Int32 × (Nat → Int32) => [(pp, .inr (6, [.ref dd, .ref rr, .ref kc, .ref mm, .ref oo, .ref tt, .ref ww])), (dd, .inr (1, [.ref da, .int u.1])), (da, .inl (cI, 64, .inl u.2))]) (zV (wc := [(pp, .inr (6, [.ref dd, .ref rr, .ref kc, .ref mm, .ref oo, .ref tt, .ref ww])), (dd, .inr (1, [.ref da, .int dn])), (da, .inl (cI, 64, .inl q1.2))]) (As := [.int q2]) (rest := []) (st0 := [.int q2, .ref pp]) ⟨hx, hb, hml, hown, hT⟩ (c_Prim_put l D cI cJ cZ cW cT H.size pp dd rr kc mm oo tt ww da dn q1.2 q2 hid) (cwV 1 hT (tbV ml_Primitives_119 im_Primitives_put se_Primitives_put in_Primitives co_Primitives_put) rfl rfl rfl v_Primitives_put ⟨Nat.le_of_ble_eq_true rfl, Nat.le_of_ble_eq_true rfl⟩) hK hE hP hD hS hA [0, 1, 2] rfl rfl 0 rfl rfl rfl hl.1 rfl (Nat.le_of_ble_eq_true rfl) d_Primitives_tuck_14 ⟨Nat.le_of_ble_eq_true rfl, Nat.le_of_ble_eq_true rfl⟩) hP hD hS hA [0, 1, 2] [] rfl rfl rfl (by decide) [0, 1, 2] rfl (fun u => rfl) (fun q3 H locs e3 k3 hP hD hS => ?_)
  have hP : va_P D classes [(pp, .inr (6, [.ref dd, .ref rr, .ref kc, .ref mm, .ref oo, .ref tt, .ref ww])), (dd, .inr (1, [.ref da, .int q3.2.1])), (da, .inl (cI, 64, .inl q3.2.2))] H := hP
  have hD : va_D A [(pp, .inr (6, [.ref dd, .ref rr, .ref kc, .ref mm, .ref oo, .ref tt, .ref ww])), (dd, .inr (1, [.ref da, .int q3.2.1])), (da, .inl (cI, 64, .inl q3.2.2))] := hD
  have hF := hF.trans (bd_e e3)
  exact W.iret (v := q3.1) hx hb hr (fun t ht hW => ⟨⟨_, _, rfl, ⟨hF.symm, k3⟩, ⟨by rw [ht]; exact hP, va_K.moved hW.alike hK, hD⟩⟩, hS.F ht⟩) hS.2.2 d_Primitives_tuck_17
/-- the picture of ColonMachine$Primitives.maybeDup -/
def F_Prim_maybeDup (dn : Int32) (df : Nat → Int32) : Int32 × Int32 × (Nat → Int32) := bd (F_Cells_at dn df 0) (fun q1 => if q1 = 0 then (0, (dn, df)) else (bd (F_Cells_hasRoomFor 64 dn 1) (fun q3 => if q3 = 0 then ((-3), (dn, df)) else (bd (F_Cells_at dn df 0) (fun q5 => bd (F_Prim_put dn df q5) (fun q6 => (q6.1, (q6.2.1, q6.2.2))))))))
theorem F_Prim_maybeDup_e (dn : Int32) (df : Nat → Int32) : F_Prim_maybeDup dn df = bd (F_Cells_at dn df 0) (fun q1 => if q1 = 0 then (0, (dn, df)) else (bd (F_Cells_hasRoomFor 64 dn 1) (fun q3 => if q3 = 0 then ((-3), (dn, df)) else (bd (F_Cells_at dn df 0) (fun q5 => bd (F_Prim_put dn df q5) (fun q6 => (q6.1, (q6.2.1, q6.2.2)))))))) := rfl
set_option maxHeartbeats 4000000 in
set_option maxRecDepth 100000 in
theorem c_Prim_maybeDup (l : Launch) (D : va_G) (cI cJ cZ cW cT : ClassId) (sz : Nat) (pp : Nat) (dd : Nat) (rr : Nat) (kc : Nat) (mm : Nat) (oo : Nat) (tt : Nat) (ww : Nat) (da : Nat) (dn : Int32) (df : Nat → Int32) (hid : CellsOk 64 dn) : Met l y_Primitives_maybeDup w_Primitives_maybeDup ({ frames := 2, cells := 0, slots := 0, locals := 42 }) (va_Pc [.ref pp] (zP D classes (TY cI cJ cZ cW cT) [(pp, .inr (6, [.ref dd, .ref rr, .ref kc, .ref mm, .ref oo, .ref tt, .ref ww])), (dd, .inr (1, [.ref da, .int dn])), (da, .inl (cI, 64, .inl df))] sz)) (va_Qi (fun (r : Int32) (u : Int32 × (Nat → Int32)) => (r, u) = F_Prim_maybeDup dn df ∧ ((CellsOk 64 u.1))) (fun u => zB D classes (TY cI cJ cZ cW cT) (va_A [(pp, .inr (6, [.ref dd, .ref rr, .ref kc, .ref mm, .ref oo, .ref tt, .ref ww])), (dd, .inr (1, [.ref da, .int dn])), (da, .inl (cI, 64, .inl df))] sz) [(pp, .inr (6, [.ref dd, .ref rr, .ref kc, .ref mm, .ref oo, .ref tt, .ref ww])), (dd, .inr (1, [.ref da, .int u.1])), (da, .inl (cI, 64, .inl u.2))]) (va_A [(pp, .inr (6, [.ref dd, .ref rr, .ref kc, .ref mm, .ref oo, .ref tt, .ref ww])), (dd, .inr (1, [.ref da, .int dn])), (da, .inl (cI, 64, .inl df))] sz)) 0 0 (va_A [(pp, .inr (6, [.ref dd, .ref rr, .ref kc, .ref mm, .ref oo, .ref tt, .ref ww])), (dd, .inr (1, [.ref da, .int dn])), (da, .inl (cI, 64, .inl df))] sz) := by
  refine Met.ofW (cc := b_Primitives_maybeDup) (maxL := 1) (ret := (some .int)) (by decide) rfl ?_
  intro p e s m args below meth c s₁ B hml hv
  obtain ⟨rfl, hsz, hP, hK, hD0, hE⟩ := hv
  have hx := B.exec
  have hb := B.bytes
  have hr := B.returns
  have hts := atoms_spec (ws := w_Primitives_maybeDup) B.pre
  have hT : ∀ w ∈ TB, w.before _ s = true := fun w h => hts w (List.mem_cons_of_mem _ h)
  have hown : s.vm.findClass "ColonMachine$Primitives" = some m.cls := findClass_of_methodNamed B.named
  have hlocks := B.notSynchronized
  subst hsz
  have hD := hD0.self (sz := s.heap.size)
  generalize hAe : va_A [(pp, .inr (6, [.ref dd, .ref rr, .ref kc, .ref mm, .ref oo, .ref tt, .ref ww])), (dd, .inr (1, [.ref da, .int dn])), (da, .inl (cI, 64, .inl df))] s.heap.size = A at hD hE ⊢
  have hA : ∀ q : Nat, s.heap.size ≤ q → A q := fun q h => by rw [← hAe]; exact Or.inr h
  have hS : va_S A s.heap s.heap [] := va_S.rf
  have hl := lv_entry [.ref pp] (n := 1) (Nat.le_of_ble_eq_true rfl)
  rw [lg_entry_eq]
  generalize (lg_sl [.ref pp] ++ List.replicate (1 - (lg_sl [.ref pp]).length) Slot.unset).toArray = ls at hl ⊢
  have hl : lv_has ls 1 [(0, .ref pp)] := hl
  have hF := F_Prim_maybeDup_e dn df
  refine lv_aload_n hx hb d_Primitives_maybeDup_0 rfl (lv_at hl 0 rfl) ?_
  refine va_get (D := D) (v := .ref dd) (C := "ColonMachine$Primitives") (T := T_Primitives) (N := 7) hx hb hT i_Primitives hown hK hP 0 rfl rfl 0 (by decide) (hT _ fl_Primitives_9) (fun _ h9 => h9) rfl d_Primitives_maybeDup_1 ?_
  refine lv_iconst (v := 0) hx hb d_Primitives_maybeDup_4 (by decide) ?_
  refine kN_pi (wr := [(pp, .inr (6, [.ref dd, .ref rr, .ref kc, .ref mm, .ref oo, .ref tt, .ref ww]))]) (zV (wc := [(dd, .inr (1, [.ref da, .int dn])), (da, .inl (cI, 64, .inl df))]) (As := [.int 0]) (rest := []) (st0 := [.int 0, .ref dd]) ⟨hx, hb, hml, hown, hT⟩ (c_Cells_at l D cI cJ cZ cW cT s.heap.size dd da 64 dn df 0 hid) (cwV 1 hT (tbV ml_Primitives_116 im_Cells_at se_Cells_at in_Cells co_Cells_at) rfl rfl rfl v_Cells_at ⟨Nat.le_of_ble_eq_true rfl, Nat.le_of_ble_eq_true rfl⟩) hK hE hP hD hS hA [1, 2] rfl rfl 0 rfl rfl rfl hl.1 rfl (Nat.le_of_ble_eq_true rfl) d_Primitives_maybeDup_5 ⟨Nat.le_of_ble_eq_true rfl, Nat.le_of_ble_eq_true rfl⟩) hP hD hS hA [1, 2] [0] rfl rfl rfl (by decide) [0, 1, 2] rfl rfl (fun q1 H locs e1 k1 hP hD hS => ?_)
  have hP : va_P D classes [(pp, .inr (6, [.ref dd, .ref rr, .ref kc, .ref mm, .ref oo, .ref tt, .ref ww])), (dd, .inr (1, [.ref da, .int dn])), (da, .inl (cI, 64, .inl df))] H := hP
  have hD : va_D A [(pp, .inr (6, [.ref dd, .ref rr, .ref kc, .ref mm, .ref oo, .ref tt, .ref ww])), (dd, .inr (1, [.ref da, .int dn])), (da, .inl (cI, 64, .inl df))] := hD
  have hF := hF.trans (bd_e e1)
  refine lv_if_ne (tgt := 13) hx hb d_Primitives_maybeDup_8 (by decide) (fun c2 => ?_) (fun c2 => ?_)
  · have hF := hF.trans (if_neg c2)
    refine lv_aload_n hx hb d_Primitives_maybeDup_13 rfl (lv_at hl 0 rfl) ?_
    refine va_get (D := D) (v := .ref dd) (C := "ColonMachine$Primitives") (T := T_Primitives) (N := 7) hx hb hT i_Primitives hown hK hP 0 rfl rfl 0 (by decide) (hT _ fl_Primitives_9) (fun _ h9 => h9) rfl d_Primitives_maybeDup_14 ?_
    refine lv_iconst (v := 1) hx hb d_Primitives_maybeDup_17 (by decide) ?_
    refine kN_pi (wr := [(pp, .inr (6, [.ref dd, .ref rr, .ref kc, .ref mm, .ref oo, .ref tt, .ref ww]))]) (zV (wc := [(dd, .inr (1, [.ref da, .int dn])), (da, .inl (cI, 64, .inl df))]) (As := [.int 1]) (rest := []) (st0 := [.int 1, .ref dd]) ⟨hx, hb, hml, hown, hT⟩ (c_Cells_hasRoomFor l D cI cJ cZ cW cT H.size dd da 64 dn df 1 hid) (cwV 1 hT (tbV ml_Primitives_113 im_Cells_hasRoomFor se_Cells_hasRoomFor in_Cells co_Cells_hasRoomFor) rfl rfl rfl v_Cells_hasRoomFor ⟨Nat.le_of_ble_eq_true rfl, Nat.le_of_ble_eq_true rfl⟩) hK hE hP hD hS hA [1, 2] rfl rfl 0 rfl rfl rfl hl.1 rfl (Nat.le_of_ble_eq_true rfl) d_Primitives_maybeDup_18 ⟨Nat.le_of_ble_eq_true rfl, Nat.le_of_ble_eq_true rfl⟩) hP hD hS hA [1, 2] [0] rfl rfl rfl (by decide) [0, 1, 2] rfl rfl (fun q3 H locs e3 k3 hP hD hS => ?_)
    have hP : va_P D classes [(pp, .inr (6, [.ref dd, .ref rr, .ref kc, .ref mm, .ref oo, .ref tt, .ref ww])), (dd, .inr (1, [.ref da, .int dn])), (da, .inl (cI, 64, .inl df))] H := hP
    have hD : va_D A [(pp, .inr (6, [.ref dd, .ref rr, .ref kc, .ref mm, .ref oo, .ref tt, .ref ww])), (dd, .inr (1, [.ref da, .int dn])), (da, .inl (cI, 64, .inl df))] := hD
    have hF := hF.trans (bd_e e3)
    refine lv_if_eq (tgt := 39) hx hb d_Primitives_maybeDup_21 (by decide) (fun c4 => ?_) (fun c4 => ?_)
    · have hF := hF.trans (if_pos c4)
      refine lv_bipush (v := (-3)) hx hb d_Primitives_maybeDup_39 (by decide) ?_
      exact W.iret (v := (-3)) hx hb hr (fun t ht hW => ⟨⟨_, _, rfl, ⟨hF.symm, hid⟩, ⟨by rw [ht]; exact hP, va_K.moved hW.alike hK, hD⟩⟩, hS.F ht⟩) hS.2.2 d_Primitives_maybeDup_41
    · have hF := hF.trans (if_neg c4)
      refine lv_aload_n hx hb d_Primitives_maybeDup_24 rfl (lv_at hl 0 rfl) ?_
      refine lv_aload_n hx hb d_Primitives_maybeDup_25 rfl (lv_at hl 0 rfl) ?_
      refine va_get (D := D) (v := .ref dd) (C := "ColonMachine$Primitives") (T := T_Primitives) (N := 7) hx hb hT i_Primitives hown hK hP 0 rfl rfl 0 (by decide) (hT _ fl_Primitives_9) (fun _ h9 => h9) rfl d_Primitives_maybeDup_26 ?_
      refine lv_iconst (v := 0) hx hb d_Primitives_maybeDup_29 (by decide) ?_
      refine kN_pi (wr := [(pp, .inr (6, [.ref dd, .ref rr, .ref kc, .ref mm, .ref oo, .ref tt, .ref ww]))]) (zV (wc := [(dd, .inr (1, [.ref da, .int dn])), (da, .inl (cI, 64, .inl df))]) (As := [.int 0]) (rest := [.ref pp]) (st0 := [.int 0, .ref dd, .ref pp]) ⟨hx, hb, hml, hown, hT⟩ (c_Cells_at l D cI cJ cZ cW cT H.size dd da 64 dn df 0 hid) (cwV 1 hT (tbV ml_Primitives_116 im_Cells_at se_Cells_at in_Cells co_Cells_at) rfl rfl rfl v_Cells_at ⟨Nat.le_of_ble_eq_true rfl, Nat.le_of_ble_eq_true rfl⟩) hK hE hP hD hS hA [1, 2] rfl rfl 0 rfl rfl rfl hl.1 rfl (Nat.le_of_ble_eq_true rfl) d_Primitives_maybeDup_30 ⟨Nat.le_of_ble_eq_true rfl, Nat.le_of_ble_eq_true rfl⟩) hP hD hS hA [1, 2] [0] rfl rfl rfl (by decide) [0, 1, 2] rfl rfl (fun q5 H locs e5 k5 hP hD hS => ?_)
      have hP : va_P D classes [(pp, .inr (6, [.ref dd, .ref rr, .ref kc, .ref mm, .ref oo, .ref tt, .ref ww])), (dd, .inr (1, [.ref da, .int dn])), (da, .inl (cI, 64, .inl df))] H := hP
      have hD : va_D A [(pp, .inr (6, [.ref dd, .ref rr, .ref kc, .ref mm, .ref oo, .ref tt, .ref ww])), (dd, .inr (1, [.ref da, .int dn])), (da, .inl (cI, 64, .inl df))] := hD
      have hF := hF.trans (bd_e e5)
      refine kN_si (wr := []) (fun u : Int32 × (Nat → Int32) => [(pp, .inr (6, [.ref dd, .ref rr, .ref kc, .ref mm, .ref oo, .ref tt, .ref ww])), (dd, .inr (1, [.ref da, .int u.1])), (da, .inl (cI, 64, .inl u.2))]) (zV (wc := [(pp, .inr (6, [.ref dd, .ref rr, .ref kc, .ref mm, .ref oo, .ref tt, .ref ww])), (dd, .inr (1, [.ref da, .int dn])), (da, .inl (cI, 64, .inl df))]) (As := [.int q5]) (rest := []) (st0 := [.int q5, .ref pp]) ⟨hx, hb, hml, hown, hT⟩ (c_Prim_put l D cI cJ cZ cW cT H.size pp dd rr kc mm oo tt ww da dn df q5 hid) (cwV 1 hT (tbV ml_Primitives_119 im_Primitives_put se_Primitives_put in_Primitives co_Primitives_put) rfl rfl rfl v_Primitives_put ⟨Nat.le_of_ble_eq_true rfl, Nat.le_of_ble_eq_true rfl⟩) hK hE hP hD hS hA [0, 1, 2] rfl rfl 0 rfl rfl rfl hl.1 rfl (Nat.le_of_ble_eq_true rfl) d_Primitives_maybeDup_33 ⟨Nat.le_of_ble_eq_true rfl, Nat.le_of_ble_eq_true rfl⟩) hP hD hS hA [0, 1, 2] [] rfl rfl rfl (by decide) [0, 1, 2] rfl (fun u => rfl) (fun q6 H locs e6 k6 hP hD hS => ?_)
      have hP : va_P D classes [(pp, .inr (6, [.ref dd, .ref rr, .ref kc, .ref mm, .ref oo, .ref tt, .ref ww])), (dd, .inr (1, [.ref da, .int q6.2.1])), (da, .inl (cI, 64, .inl q6.2.2))] H := hP
      have hD : va_D A [(pp, .inr (6, [.ref dd, .ref rr, .ref kc, .ref mm, .ref oo, .ref tt, .ref ww])), (dd, .inr (1, [.ref da, .int q6.2.1])), (da, .inl (cI, 64, .inl q6.2.2))] := hD
      have hF := hF.trans (bd_e e6)
      refine lv_goto (tgt := 41) hx hb d_Primitives_maybeDup_36 (by decide) ?_
      exact W.iret (v := q6.1) hx hb hr (fun t ht hW => ⟨⟨_, _, rfl, ⟨hF.symm, k6⟩, ⟨by rw [ht]; exact hP, va_K.moved hW.alike hK, hD⟩⟩, hS.F ht⟩) hS.2.2 d_Primitives_maybeDup_41
  · have hF := hF.trans (if_pos c2)
    refine lv_iconst (v := 0) hx hb d_Primitives_maybeDup_11 (by decide) ?_
    exact W.iret (v := 0) hx hb hr (fun t ht hW => ⟨⟨_, _, rfl, ⟨hF.symm, hid⟩, ⟨by rw [ht]; exact hP, va_K.moved hW.alike hK, hD⟩⟩, hS.F ht⟩) hS.2.2 d_Primitives_maybeDup_12
/-- the picture of ColonMachine$Primitives.pickCell -/
def F_Prim_pickCell (dn : Int32) (df : Nat → Int32) : Int32 × (Nat → Int32) := bd (F_Cells_at dn df 0) (fun q1 => if q1 < 0 then ((-4), df) else (bd (F_Cells_size dn) (fun q3 => if q1 < (q3 - 1) then (bd (F_Cells_at dn df (q1 + 1)) (fun q5 => bd (F_Cells_set dn df 0 q5) (fun q6 => (0, q6)))) else ((-4), df))))
theorem F_Prim_pickCell_e (dn : Int32) (df : Nat → Int32) : F_Prim_pickCell dn df = bd (F_Cells_at dn df 0) (fun q1 => if q1 < 0 then ((-4), df) else (bd (F_Cells_size dn) (fun q3 => if q1 < (q3 - 1) then (bd (F_Cells_at dn df (q1 + 1)) (fun q5 => bd (F_Cells_set dn df 0 q5) (fun q6 => (0, q6)))) else ((-4), df)))) := rfl
set_option maxHeartbeats 4000000 in
set_option maxRecDepth 100000 in
theorem c_Prim_pickCell (l : Launch) (D : va_G) (cI cJ cZ cW cT : ClassId) (sz : Nat) (pp : Nat) (dd : Nat) (rr : Nat) (kc : Nat) (mm : Nat) (oo : Nat) (tt : Nat) (ww : Nat) (da : Nat) (dn : Int32) (df : Nat → Int32) (hid : CellsOk 64 dn) : Met l y_Primitives_pickCell w_Primitives_pickCell ({ frames := 1, cells := 0, slots := 0, locals := 22 }) (va_Pc [.ref pp] (zP D classes (TY cI cJ cZ cW cT) [(pp, .inr (6, [.ref dd, .ref rr, .ref kc, .ref mm, .ref oo, .ref tt, .ref ww])), (dd, .inr (1, [.ref da, .int dn])), (da, .inl (cI, 64, .inl df))] sz)) (va_Qi (fun (r : Int32) (u : (Nat → Int32)) => (r, u) = F_Prim_pickCell dn df ∧ (True)) (fun u => zB D classes (TY cI cJ cZ cW cT) (va_A [(pp, .inr (6, [.ref dd, .ref rr, .ref kc, .ref mm, .ref oo, .ref tt, .ref ww])), (dd, .inr (1, [.ref da, .int dn])), (da, .inl (cI, 64, .inl df))] sz) [(pp, .inr (6, [.ref dd, .ref rr, .ref kc, .ref mm, .ref oo, .ref tt, .ref ww])), (dd, .inr (1, [.ref da, .int dn])), (da, .inl (cI, 64, .inl u))]) (va_A [(pp, .inr (6, [.ref dd, .ref rr, .ref kc, .ref mm, .ref oo, .ref tt, .ref ww])), (dd, .inr (1, [.ref da, .int dn])), (da, .inl (cI, 64, .inl df))] sz)) 0 0 (va_A [(pp, .inr (6, [.ref dd, .ref rr, .ref kc, .ref mm, .ref oo, .ref tt, .ref ww])), (dd, .inr (1, [.ref da, .int dn])), (da, .inl (cI, 64, .inl df))] sz) := by
  refine Met.ofW (cc := b_Primitives_pickCell) (maxL := 2) (ret := (some .int)) (by decide) rfl ?_
  intro p e s m args below meth c s₁ B hml hv
  obtain ⟨rfl, hsz, hP, hK, hD0, hE⟩ := hv
  have hx := B.exec
  have hb := B.bytes
  have hr := B.returns
  have hts := atoms_spec (ws := w_Primitives_pickCell) B.pre
  have hT : ∀ w ∈ TB, w.before _ s = true := fun w h => hts w (List.mem_cons_of_mem _ h)
  have hown : s.vm.findClass "ColonMachine$Primitives" = some m.cls := findClass_of_methodNamed B.named
  have hlocks := B.notSynchronized
  subst hsz
  have hD := hD0.self (sz := s.heap.size)
  generalize hAe : va_A [(pp, .inr (6, [.ref dd, .ref rr, .ref kc, .ref mm, .ref oo, .ref tt, .ref ww])), (dd, .inr (1, [.ref da, .int dn])), (da, .inl (cI, 64, .inl df))] s.heap.size = A at hD hE ⊢
  have hA : ∀ q : Nat, s.heap.size ≤ q → A q := fun q h => by rw [← hAe]; exact Or.inr h
  have hS : va_S A s.heap s.heap [] := va_S.rf
  have hl := lv_entry [.ref pp] (n := 2) (Nat.le_of_ble_eq_true rfl)
  rw [lg_entry_eq]
  generalize (lg_sl [.ref pp] ++ List.replicate (2 - (lg_sl [.ref pp]).length) Slot.unset).toArray = ls at hl ⊢
  have hl : lv_has ls 2 [(0, .ref pp)] := hl
  have hF := F_Prim_pickCell_e dn df
  refine lv_aload_n hx hb d_Primitives_pickCell_0 rfl (lv_at hl 0 rfl) ?_
  refine va_get (D := D) (v := .ref dd) (C := "ColonMachine$Primitives") (T := T_Primitives) (N := 7) hx hb hT i_Primitives hown hK hP 0 rfl rfl 0 (by decide) (hT _ fl_Primitives_9) (fun _ h9 => h9) rfl d_Primitives_pickCell_1 ?_
  refine lv_iconst (v := 0) hx hb d_Primitives_pickCell_4 (by decide) ?_
  refine kN_pi (wr := [(pp, .inr (6, [.ref dd, .ref rr, .ref kc, .ref mm, .ref oo, .ref tt, .ref ww]))]) (zV (wc := [(dd, .inr (1, [.ref da, .int dn])), (da, .inl (cI, 64, .inl df))]) (As := [.int 0]) (rest := []) (st0 := [.int 0, .ref dd]) ⟨hx, hb, hml, hown, hT⟩ (c_Cells_at l D cI cJ cZ cW cT s.heap.size dd da 64 dn df 0 hid) (cwV 1 hT (tbV ml_Primitives_116 im_Cells_at se_Cells_at in_Cells co_Cells_at) rfl rfl rfl v_Cells_at ⟨Nat.le_of_ble_eq_true rfl, Nat.le_of_ble_eq_true rfl⟩) hK hE hP hD hS hA [1, 2] rfl rfl 0 rfl rfl rfl hl.1 rfl (Nat.le_of_ble_eq_true rfl) d_Primitives_pickCell_5 ⟨Nat.le_of_ble_eq_true rfl, Nat.le_of_ble_eq_true rfl⟩) hP hD hS hA [1, 2] [0] rfl rfl rfl (by decide) [0, 1, 2] rfl rfl (fun q1 H locs e1 k1 hP hD hS => ?_)
  have hP : va_P D classes [(pp, .inr (6, [.ref dd, .ref rr, .ref kc, .ref mm, .ref oo, .ref tt, .ref ww])), (dd, .inr (1, [.ref da, .int dn])), (da, .inl (cI, 64, .inl df))] H := hP
  have hD : va_D A [(pp, .inr (6, [.ref dd, .ref rr, .ref kc, .ref mm, .ref oo, .ref tt, .ref ww])), (dd, .inr (1, [.ref da, .int dn])), (da, .inl (cI, 64, .inl df))] := hD
  have hF := hF.trans (bd_e e1)
  refine lv_istore_n (lv' := [(1, .int q1), (0, .ref pp)]) hx hb d_Primitives_pickCell_8 rfl hl (by decide) rfl (fun ls hl => ?_)
  refine lv_iload_n hx hb d_Primitives_pickCell_9 rfl (lv_at hl 0 rfl) ?_
  refine lv_if_lt (tgt := 26) hx hb d_Primitives_pickCell_10 (by decide) (fun c2 => ?_) (fun c2 => ?_)
  · have hF := hF.trans (if_pos c2)
    refine lv_bipush (v := (-4)) hx hb d_Primitives_pickCell_26 (by decide) ?_
    exact W.iret (v := (-4)) hx hb hr (fun t ht hW => ⟨⟨_, _, rfl, ⟨hF.symm, trivial⟩, ⟨by rw [ht]; exact hP, va_K.moved hW.alike hK, hD⟩⟩, hS.F ht⟩) hS.2.2 d_Primitives_pickCell_28
  · have hF := hF.trans (if_neg c2)
    refine lv_iload_n hx hb d_Primitives_pickCell_13 rfl (lv_at hl 0 rfl) ?_
    refine lv_aload_n hx hb d_Primitives_pickCell_14 rfl (lv_at hl 1 rfl) ?_
    refine va_get (D := D) (v := .ref dd) (C := "ColonMachine$Primitives") (T := T_Primitives) (N := 7) hx hb hT i_Primitives hown hK hP 0 rfl rfl 0 (by decide) (hT _ fl_Primitives_9) (fun _ h9 => h9) rfl d_Primitives_pickCell_15 ?_
    refine kN_pi (wr := [(pp, .inr (6, [.ref dd, .ref rr, .ref kc, .ref mm, .ref oo, .ref tt, .ref ww])), (da, .inl (cI, 64, .inl df))]) (zV (wc := [(dd, .inr (1, [.ref da, .int dn]))]) (As := []) (rest := [.int q1]) (st0 := [.ref dd, .int q1]) ⟨hx, hb, hml, hown, hT⟩ (c_Cells_size l D cI cJ cZ cW cT H.size dd da 64 dn hid) (cwV 0 hT (tbV ml_Primitives_101 im_Cells_size se_Cells_size in_Cells co_Cells_size) rfl rfl rfl v_Cells_size ⟨Nat.le_of_ble_eq_true rfl, Nat.le_of_ble_eq_true rfl⟩) hK hE hP hD hS hA [1] rfl rfl 0 rfl rfl rfl hl.1 rfl (Nat.le_of_ble_eq_true rfl) d_Primitives_pickCell_18 ⟨Nat.le_of_ble_eq_true rfl, Nat.le_of_ble_eq_true rfl⟩) hP hD hS hA [1] [0, 2] rfl rfl rfl (by decide) [0, 2, 1] rfl rfl (fun q3 H locs e3 k3 hP hD hS => ?_)
    have hP : va_P D classes [(pp, .inr (6, [.ref dd, .ref rr, .ref kc, .ref mm, .ref oo, .ref tt, .ref ww])), (dd, .inr (1, [.ref da, .int dn])), (da, .inl (cI, 64, .inl df))] H := hP
    have hD : va_D A [(pp, .inr (6, [.ref dd, .ref rr, .ref kc, .ref mm, .ref oo, .ref tt, .ref ww])), (dd, .inr (1, [.ref da, .int dn])), (da, .inl (cI, 64, .inl df))] := hD
    have hF := hF.trans (bd_e e3)
    refine lv_iconst (v := 1) hx hb d_Primitives_pickCell_21 (by decide) ?_
    refine lv_isub hx hb d_Primitives_pickCell_22 ?_
    refine lv_icmp_lt (tgt := 29) hx hb d_Primitives_pickCell_23 (by decide) (fun c4 => ?_) (fun c4 => ?_)
    · have hF := hF.trans (if_pos c4)
      refine lv_aload_n hx hb d_Primitives_pickCell_29 rfl (lv_at hl 1 rfl) ?_
      refine va_get (D := D) (v := .ref dd) (C := "ColonMachine$Primitives") (T := T_Primitives) (N := 7) hx hb hT i_Primitives hown hK hP 0 rfl rfl 0 (by decide) (hT _ fl_Primitives_9) (fun _ h9 => h9) rfl d_Primitives_pickCell_30 ?_
      refine lv_iconst (v := 0) hx hb d_Primitives_pickCell_33 (by decide) ?_
      refine lv_aload_n hx hb d_Primitives_pickCell_34 rfl (lv_at hl 1 rfl) ?_
      refine va_get (D := D) (v := .ref dd) (C := "ColonMachine$Primitives") (T := T_Primitives) (N := 7) hx hb hT i_Primitives hown hK hP 0 rfl rfl 0 (by decide) (hT _ fl_Primitives_9) (fun _ h9 => h9) rfl d_Primitives_pickCell_35 ?_
      refine lv_iload_n hx hb d_Primitives_pickCell_38 rfl (lv_at hl 0 rfl) ?_
      refine lv_iconst (v := 1) hx hb d_Primitives_pickCell_39 (by decide) ?_
      refine lv_iadd hx hb d_Primitives_pickCell_40 ?_
      refine kN_pi (wr := [(pp, .inr (6, [.ref dd, .ref rr, .ref kc, .ref mm, .ref oo, .ref tt, .ref ww]))]) (zV (wc := [(dd, .inr (1, [.ref da, .int dn])), (da, .inl (cI, 64, .inl df))]) (As := [.int (q1 + 1)]) (rest := [.int 0, .ref dd]) (st0 := [.int (q1 + 1), .ref dd, .int 0, .ref dd]) ⟨hx, hb, hml, hown, hT⟩ (c_Cells_at l D cI cJ cZ cW cT H.size dd da 64 dn df (q1 + 1) hid) (cwV 1 hT (tbV ml_Primitives_116 im_Cells_at se_Cells_at in_Cells co_Cells_at) rfl rfl rfl v_Cells_at ⟨Nat.le_of_ble_eq_true rfl, Nat.le_of_ble_eq_true rfl⟩) hK hE hP hD hS hA [1, 2] rfl rfl 0 rfl rfl rfl hl.1 rfl (Nat.le_of_ble_eq_true rfl) d_Primitives_pickCell_41 ⟨Nat.le_of_ble_eq_true rfl, Nat.le_of_ble_eq_true rfl⟩) hP hD hS hA [1, 2] [0] rfl rfl rfl (by decide) [0, 1, 2] rfl rfl (fun q5 H locs e5 k5 hP hD hS => ?_)
      have hP : va_P D classes [(pp, .inr (6, [.ref dd, .ref rr, .ref kc, .ref mm, .ref oo, .ref tt, .ref ww])), (dd, .inr (1, [.ref da, .int dn])), (da, .inl (cI, 64, .inl df))] H := hP
      have hD : va_D A [(pp, .inr (6, [.ref dd, .ref rr, .ref kc, .ref mm, .ref oo, .ref tt, .ref ww])), (dd, .inr (1, [.ref da, .int dn])), (da, .inl (cI, 64, .inl df))] := hD
      have hF := hF.trans (bd_e e5)
      refine kN_sv (wr := [(pp, .inr (6, [.ref dd, .ref rr, .ref kc, .ref mm, .ref oo, .ref tt, .ref ww]))]) (fun u : (Nat → Int32) => [(pp, .inr (6, [.ref dd, .ref rr, .ref kc, .ref mm, .ref oo, .ref tt, .ref ww])), (dd, .inr (1, [.ref da, .int dn])), (da, .inl (cI, 64, .inl u))]) (zV (wc := [(dd, .inr (1, [.ref da, .int dn])), (da, .inl (cI, 64, .inl df))]) (As := [.int 0, .int q5]) (rest := []) (st0 := [.int q5, .int 0, .ref dd]) ⟨hx, hb, hml, hown, hT⟩ (c_Cells_set l D cI cJ cZ cW cT H.size dd da 64 dn df 0 q5 hid) (cwV 2 hT (tbV ml_Primitives_152 im_Cells_set se_Cells_set in_Cells co_Cells_set) rfl rfl rfl v_Cells_set ⟨Nat.le_of_ble_eq_true rfl, Nat.le_of_ble_eq_true rfl⟩) hK hE hP hD hS hA [1, 2] rfl rfl 0 rfl rfl rfl hl.1 rfl (Nat.le_of_ble_eq_true rfl) d_Primitives_pickCell_44 ⟨Nat.le_of_ble_eq_true rfl, Nat.le_of_ble_eq_true rfl⟩) hP hD hS hA [1, 2] [0] rfl rfl rfl (by decide) [0, 1, 2] rfl (fun u => rfl) (fun q6 H locs e6 k6 hP hD hS => ?_)
      have hP : va_P D classes [(pp, .inr (6, [.ref dd, .ref rr, .ref kc, .ref mm, .ref oo, .ref tt, .ref ww])), (dd, .inr (1, [.ref da, .int dn])), (da, .inl (cI, 64, .inl q6))] H := hP
      have hD : va_D A [(pp, .inr (6, [.ref dd, .ref rr, .ref kc, .ref mm, .ref oo, .ref tt, .ref ww])), (dd, .inr (1, [.ref da, .int dn])), (da, .inl (cI, 64, .inl q6))] := hD
      have hF := hF.trans (bd_e e6)
      refine lv_iconst (v := 0) hx hb d_Primitives_pickCell_47 (by decide) ?_
      exact W.iret (v := 0) hx hb hr (fun t ht hW => ⟨⟨_, _, rfl, ⟨hF.symm, trivial⟩, ⟨by rw [ht]; exact hP, va_K.moved hW.alike hK, hD⟩⟩, hS.F ht⟩) hS.2.2 d_Primitives_pickCell_48
    · have hF := hF.trans (if_neg c4)
      refine lv_bipush (v := (-4)) hx hb d_Primitives_pickCell_26 (by decide) ?_
      exact W.iret (v := (-4)) hx hb hr (fun t ht hW => ⟨⟨_, _, rfl, ⟨hF.symm, trivial⟩, ⟨by rw [ht]; exact hP, va_K.moved hW.alike hK, hD⟩⟩, hS.F ht⟩) hS.2.2 d_Primitives_pickCell_28
/-- the picture of ColonMachine$Primitives.twoDup -/
def F_Prim_twoDup (dn : Int32) (df : Nat → Int32) : Int32 × Int32 × (Nat → Int32) := bd (F_Cells_at dn df 1) (fun q1 => bd (F_Prim_put dn df q1) (fun q2 => bd (F_Cells_at q2.2.1 q2.2.2 1) (fun q3 => bd (F_Prim_put q2.2.1 q2.2.2 q3) (fun q4 => (q4.1, (q4.2.1, q4.2.2))))))
theorem F_Prim_twoDup_e (dn : Int32) (df : Nat → Int32) : F_Prim_twoDup dn df = bd (F_Cells_at dn df 1) (fun q1 => bd (F_Prim_put dn df q1) (fun q2 => bd (F_Cells_at q2.2.1 q2.2.2 1) (fun q3 => bd (F_Prim_put q2.2.1 q2.2.2 q3) (fun q4 => (q4.1, (q4.2.1, q4.2.2)))))) := rfl
set_option maxHeartbeats 4000000 in
set_option maxRecDepth 100000 in
theorem c_Prim_twoDup (l : Launch) (D : va_G) (cI cJ cZ cW cT : ClassId) (sz : Nat) (pp : Nat) (dd : Nat) (rr : Nat) (kc : Nat) (mm : Nat) (oo : Nat) (tt : Nat) (ww : Nat) (da : Nat) (dn : Int32) (df : Nat → Int32) (hid : CellsOk 64 dn) : Met l y_Primitives_twoDup w_Primitives_twoDup ({ frames := 2, cells := 0, slots := 0, locals := 42 }) (va_Pc [.ref pp] (zP D classes (TY cI cJ cZ cW cT) [(pp, .inr (6, [.ref dd, .ref rr, .ref kc, .ref mm, .ref oo, .ref tt, .ref ww])), (dd, .inr (1, [.ref da, .int dn])), (da, .inl (cI, 64, .inl df))] sz)) (va_Qi (fun (r : Int32) (u : Int32 × (Nat → Int32)) => (r, u) = F_Prim_twoDup dn df ∧ ((CellsOk 64 u.1))) (fun u => zB D classes (TY cI cJ cZ cW cT) (va_A [(pp, .inr (6, [.ref dd, .ref rr, .ref kc, .ref mm, .ref oo, .ref tt, .ref ww])), (dd, .inr (1, [.ref da, .int dn])), (da, .inl (cI, 64, .inl df))] sz) [(pp, .inr (6, [.ref dd, .ref rr, .ref kc, .ref mm, .ref oo, .ref tt, .ref ww])), (dd, .inr (1, [.ref da, .int u.1])), (da, .inl (cI, 64, .inl u.2))]) (va_A [(pp, .inr (6, [.ref dd, .ref rr, .ref kc, .ref mm, .ref oo, .ref tt, .ref ww])), (dd, .inr (1, [.ref da, .int dn])), (da, .inl (cI, 64, .inl df))] sz)) 0 0 (va_A [(pp, .inr (6, [.ref dd, .ref rr, .ref kc, .ref mm, .ref oo, .ref tt, .ref ww])), (dd, .inr (1, [.ref da, .int dn])), (da, .inl (cI, 64, .inl df))] sz) := by
  refine Met.ofW (cc := b_Primitives_twoDup) (maxL := 1) (ret := (some .int)) (by decide) rfl ?_
  intro p e s m args below meth c s₁ B hml hv
  obtain ⟨rfl, hsz, hP, hK, hD0, hE⟩ := hv
  have hx := B.exec
  have hb := B.bytes
  have hr := B.returns
  have hts := atoms_spec (ws := w_Primitives_twoDup) B.pre
  have hT : ∀ w ∈ TB, w.before _ s = true := fun w h => hts w (List.mem_cons_of_mem _ h)
  have hown : s.vm.findClass "ColonMachine$Primitives" = some m.cls := findClass_of_methodNamed B.named
  have hlocks := B.notSynchronized
  subst hsz
  have hD := hD0.self (sz := s.heap.size)
  generalize hAe : va_A [(pp, .inr (6, [.ref dd, .ref rr, .ref kc, .ref mm, .ref oo, .ref tt, .ref ww])), (dd, .inr (1, [.ref da, .int dn])), (da, .inl (cI, 64, .inl df))] s.heap.size = A at hD hE ⊢
  have hA : ∀ q : Nat, s.heap.size ≤ q → A q := fun q h => by rw [← hAe]; exact Or.inr h
  have hS : va_S A s.heap s.heap [] := va_S.rf
  have hl := lv_entry [.ref pp] (n := 1) (Nat.le_of_ble_eq_true rfl)
  rw [lg_entry_eq]
  generalize (lg_sl [.ref pp] ++ List.replicate (1 - (lg_sl [.ref pp]).length) Slot.unset).toArray = ls at hl ⊢
  have hl : lv_has ls 1 [(0, .ref pp)] := hl
  have hF := F_Prim_twoDup_e dn df
  refine lv_aload_n hx hb d_Primitives_twoDup_0 rfl (lv_at hl 0 rfl) ?_
  refine lv_aload_n hx hb d_Primitives_twoDup_1 rfl (lv_at hl 0 rfl) ?_
  refine va_get (D := D) (v := .ref dd) (C := "ColonMachine$Primitives") (T := T_Primitives) (N := 7) hx hb hT i_Primitives hown hK hP 0 rfl rfl 0 (by decide) (hT _ fl_Primitives_9) (fun _ h9 => h9) rfl d_Primitives_twoDup_2 ?_
  refine lv_iconst (v := 1) hx hb d_Primitives_twoDup_5 (by decide) ?_
  refine kN_pi (wr := [(pp, .inr (6, [.ref dd, .ref rr, .ref kc, .ref mm, .ref oo, .ref tt, .ref ww]))]) (zV (wc := [(dd, .inr (1, [.ref da, .int dn])), (da, .inl (cI, 64, .inl df))]) (As := [.int 1]) (rest := [.ref pp]) (st0 := [.int 1, .ref dd, .ref pp]) ⟨hx, hb, hml, hown, hT⟩ (c_Cells_at l D cI cJ cZ cW cT s.heap.size dd da 64 dn df 1 hid) (cwV 1 hT (tbV ml_Primitives_116 im_Cells_at se_Cells_at in_Cells co_Cells_at) rfl rfl rfl v_Cells_at ⟨Nat.le_of_ble_eq_true rfl, Nat.le_of_ble_eq_true rfl⟩) hK hE hP hD hS hA [1, 2] rfl rfl 0 rfl rfl rfl hl.1 rfl (Nat.le_of_ble_eq_true rfl) d_Primitives_twoDup_6 ⟨Nat.le_of_ble_eq_true rfl, Nat.le_of_ble_eq_true rfl⟩) hP hD hS hA [1, 2] [0] rfl rfl rfl (by decide) [0, 1, 2] rfl rfl (fun q1 H locs e1 k1 hP hD hS => ?_)
  have hP : va_P D classes [(pp, .inr (6, [.ref dd, .ref rr, .ref kc, .ref mm, .ref oo, .ref tt, .ref ww])), (dd, .inr (1, [.ref da, .int dn])), (da, .inl (cI, 64, .inl df))] H := hP
  have hD : va_D A [(pp, .inr (6, [.ref dd, .ref rr, .ref kc, .ref mm, .ref oo, .ref tt, .ref ww])), (dd, .inr (1, [.ref da, .int dn])), (da, .inl (cI, 64, .inl df))] := hD
  have hF := hF.trans (bd_e e1)
  refine kN_si (wr := []) (fun u : Int32 × (Nat → Int32) => [(pp, .inr (6, [.ref dd, .ref rr, .ref kc, .ref mm, .ref oo, .ref tt, .ref ww])), (dd, .inr (1, [.ref da, .int u.1])), (da, .inl (cI, 64, .inl u.2))]) (zV (wc := [(pp, .inr (6, [.ref dd, .ref rr, .ref kc, .ref mm, .ref oo, .ref tt, .ref ww])), (dd, .inr (1, [.ref da, .int dn])), (da, .inl (cI, 64, .inl df))]) (As := [.int q1]) (rest := []) (st0 := [.int q1, .ref pp]) ⟨hx, hb, hml, hown, hT⟩ (c_Prim_put l D cI cJ cZ cW cT H.size pp dd rr kc mm oo tt ww da dn df q1 hid) (cwV 1 hT (tbV ml_Primitives_119 im_Primitives_put se_Primitives_put in_Primitives co_Primitives_put) rfl rfl rfl v_Primitives_put ⟨Nat.le_of_ble_eq_true rfl, Nat.le_of_ble_eq_true rfl⟩) hK hE hP hD hS hA [0, 1, 2] rfl rfl 0 rfl rfl rfl hl.1 rfl (Nat.le_of_ble_eq_true rfl) d_Primitives_twoDup_9 ⟨Nat.le_of_ble_eq_true rfl, Nat.le_of_ble_eq_true rfl⟩) hP hD hS hA [0, 1, 2] [] rfl rfl rfl (by decide) [0, 1, 2] rfl (fun u => rfl) (fun q2 H locs e2 k2 hP hD hS => ?_)
  have hP : va_P D classes [(pp, .inr (6, [.ref dd, .ref rr, .ref kc, .ref mm, .ref oo, .ref tt, .ref ww])), (dd, .inr (1, [.ref da, .int q2.2.1])), (da, .inl (cI, 64, .inl q2.2.2))] H := hP
  have hD : va_D A [(pp, .inr (6, [.ref dd, .ref rr, .ref kc, .ref mm, .ref oo, .ref tt, .ref ww])), (dd, .inr (1, [.ref da, .int q2.2.1])), (da, .inl (cI, 64, .inl q2.2.2))] := hD
  have hF := hF.trans (bd_e e2)
  refine lv_pop hx hb d_Primitives_twoDup_12 rfl ?_
  refine lv_aload_n hx hb d_Primitives_twoDup_13 rfl (lv_at hl 0 rfl) ?_
  refine lv_aload_n hx hb d_Primitives_twoDup_14 rfl (lv_at hl 0 rfl) ?_
  refine va_get (D := D) (v := .ref dd) (C := "ColonMachine$Primitives") (T := T_Primitives) (N := 7) hx hb hT i_Primitives hown hK hP 0 rfl rfl 0 (by decide) (hT _ fl_Primitives_9) (fun _ h9 => h9) rfl d_Primitives_twoDup_15 ?_
  refine lv_iconst (v := 1) hx hb d_Primitives_twoDup_18 (by decide) ?_
  refine kN_pi (wr := [(pp, .inr (6, [.ref dd, .ref rr, .ref kc, .ref mm, .ref oo, .ref tt, .ref ww]))]) (zV (wc := [(dd, .inr (1, [.ref da, .int q2.2.1])), (da, .inl (cI, 64, .inl q2.2.2))]) (As := [.int 1]) (rest := [.ref pp]) (st0 := [.int 1, .ref dd, .ref pp]) ⟨hx, hb, hml, hown, hT⟩ (c_Cells_at l D cI cJ cZ cW cT H.size dd da 64 q2.2.1 q2.2.2 1 k2) (cwV 1 hT (tbV ml_Primitives_116 im_Cells_at se_Cells_at in_Cells co_Cells_at) rfl rfl rfl v_Cells_at ⟨Nat.le_of_ble_eq_true rfl, Nat.le_of_ble_eq_true rfl⟩) hK hE hP hD hS hA [1, 2] rfl rfl 0 rfl rfl rfl hl.1 rfl (Nat.le_of_ble_eq_true rfl) d_Primitives_twoDup_19 ⟨Nat.le_of_ble_eq_true rfl, Nat.le_of_ble_eq_true rfl⟩) hP hD hS hA [1, 2] [0] rfl rfl rfl (by decide) [0, 1, 2] rfl rfl (fun q3 H locs e3 k3 hP hD hS => ?_)
  have hP : va_P D classes [(pp, .inr (6, [.ref dd, .ref rr, .ref kc, .ref mm, .ref oo, .ref tt, .ref ww])), (dd, .inr (1, [.ref da, .int q2.2.1])), (da, .inl (cI, 64, .inl q2.2.2))] H := hP
  have hD : va_D A [(pp, .inr (6, [.ref dd, .ref rr, .ref kc, .ref mm, .ref oo, .ref tt, .ref ww])), (dd, .inr (1, [.ref da, .int q2.2.1])), (da, .inl (cI, 64, .inl q2.2.2))] := hD
  have hF := hF.trans (bd_e e3)
  refine kN_si (wr := []) (fun u : Int32 × (Nat → Int32) => [(pp, .inr (6, [.ref dd, .ref rr, .ref kc, .ref mm, .ref oo, .ref tt, .ref ww])), (dd, .inr (1, [.ref da, .int u.1])), (da, .inl (cI, 64, .inl u.2))]) (zV (wc := [(pp, .inr (6, [.ref dd, .ref rr, .ref kc, .ref mm, .ref oo, .ref tt, .ref ww])), (dd, .inr (1, [.ref da, .int q2.2.1])), (da, .inl (cI, 64, .inl q2.2.2))]) (As := [.int q3]) (rest := []) (st0 := [.int q3, .ref pp]) ⟨hx, hb, hml, hown, hT⟩ (c_Prim_put l D cI cJ cZ cW cT H.size pp dd rr kc mm oo tt ww da q2.2.1 q2.2.2 q3 k2) (cwV 1 hT (tbV ml_Primitives_119 im_Primitives_put se_Primitives_put in_Primitives co_Primitives_put) rfl rfl rfl v_Primitives_put ⟨Nat.le_of_ble_eq_true rfl, Nat.le_of_ble_eq_true rfl⟩) hK hE hP hD hS hA [0, 1, 2] rfl rfl 0 rfl rfl rfl hl.1 rfl (Nat.le_of_ble_eq_true rfl) d_Primitives_twoDup_22 ⟨Nat.le_of_ble_eq_true rfl, Nat.le_of_ble_eq_true rfl⟩) hP hD hS hA [0, 1, 2] [] rfl rfl rfl (by decide) [0, 1, 2] rfl (fun u => rfl) (fun q4 H locs e4 k4 hP hD hS => ?_)
  have hP : va_P D classes [(pp, .inr (6, [.ref dd, .ref rr, .ref kc, .ref mm, .ref oo, .ref tt, .ref ww])), (dd, .inr (1, [.ref da, .int q4.2.1])), (da, .inl (cI, 64, .inl q4.2.2))] H := hP
  have hD : va_D A [(pp, .inr (6, [.ref dd, .ref rr, .ref kc, .ref mm, .ref oo, .ref tt, .ref ww])), (dd, .inr (1, [.ref da, .int q4.2.1])), (da, .inl (cI, 64, .inl q4.2.2))] := hD
  have hF := hF.trans (bd_e e4)
  exact W.iret (v := q4.1) hx hb hr (fun t ht hW => ⟨⟨_, _, rfl, ⟨hF.symm, k4⟩, ⟨by rw [ht]; exact hP, va_K.moved hW.alike hK, hD⟩⟩, hS.F ht⟩) hS.2.2 d_Primitives_twoDup_25
/-- the picture of ColonMachine$Primitives.shuffle -/
def F_Prim_shuffle (dn : Int32) (df : Nat → Int32) (x1 : Int32) : Int32 × Int32 × (Nat → Int32) := if x1 = 0 then (bd (F_Cells_at dn df 0) (fun q2 => bd (F_Prim_put dn df q2) (fun q3 => (q3.1, (q3.2.1, q3.2.2))))) else (if x1 = 1 then (bd (F_Prim_dropped dn 1) (fun q5 => (q5.1, (q5.2, df)))) else (if x1 = 2 then (bd (F_Prim_swap dn df) (fun q7 => (q7.1, (dn, q7.2)))) else (if x1 = 3 then (bd (F_Cells_at dn df 1) (fun q9 => bd (F_Prim_put dn df q9) (fun q10 => (q10.1, (q10.2.1, q10.2.2))))) else (if x1 = 4 then (bd (F_Prim_rot dn df) (fun q12 => (q12.1, (dn, q12.2)))) else (if x1 = 5 then (bd (F_Prim_nip dn df) (fun q14 => (q14.1, (q14.2.1, q14.2.2)))) else (if x1 = 6 then (bd (F_Prim_tuck dn df) (fun q16 => (q16.1, (q16.2.1, q16.2.2)))) else (if x1 = 7 then (bd (F_Prim_maybeDup dn df) (fun q18 => (q18.1, (q18.2.1, q18.2.2)))) else (if x1 = 8 then (bd (F_Prim_pickCell dn df) (fun q20 => (q20.1, (dn, q20.2)))) else (if x1 = 9 then (bd (F_Cells_size dn) (fun q22 => bd (F_Prim_put dn df q22) (fun q23 => (q23.1, (q23.2.1, q23.2.2))))) else (if x1 = 10 then (bd (F_Prim_twoDup dn df) (fun q25 => (q25.1, (q25.2.1, q25.2.2)))) else (bd (F_Prim_dropped dn 2) (fun q26 => (q26.1, (q26.2, df))))))))))))))
theorem F_Prim_shuffle_e (dn : Int32) (df : Nat → Int32) (x1 : Int32) : F_Prim_shuffle dn df x1 = if x1 = 0 then (bd (F_Cells_at dn df 0) (fun q2 => bd (F_Prim_put dn df q2) (fun q3 => (q3.1, (q3.2.1, q3.2.2))))) else (if x1 = 1 then (bd (F_Prim_dropped dn 1) (fun q5 => (q5.1, (q5.2, df)))) else (if x1 = 2 then (bd (F_Prim_swap dn df) (fun q7 => (q7.1, (dn, q7.2)))) else (if x1 = 3 then (bd (F_Cells_at dn df 1) (fun q9 => bd (F_Prim_put dn df q9) (fun q10 => (q10.1, (q10.2.1, q10.2.2))))) else (if x1 = 4 then (bd (F_Prim_rot dn df) (fun q12 => (q12.1, (dn, q12.2)))) else (if x1 = 5 then (bd (F_Prim_nip dn df) (fun q14 => (q14.1, (q14.2.1, q14.2.2)))) else (if x1 = 6 then (bd (F_Prim_tuck dn df) (fun q16 => (q16.1, (q16.2.1, q16.2.2)))) else (if x1 = 7 then (bd (F_Prim_maybeDup dn df) (fun q18 => (q18.1, (q18.2.1, q18.2.2)))) else (if x1 = 8 then (bd (F_Prim_pickCell dn df) (fun q20 => (q20.1, (dn, q20.2)))) else (if x1 = 9 then (bd (F_Cells_size dn) (fun q22 => bd (F_Prim_put dn df q22) (fun q23 => (q23.1, (q23.2.1, q23.2.2))))) else (if x1 = 10 then (bd (F_Prim_twoDup dn df) (fun q25 => (q25.1, (q25.2.1, q25.2.2)))) else (bd (F_Prim_dropped dn 2) (fun q26 => (q26.1, (q26.2, df)))))))))))))) := rfl
set_option maxHeartbeats 4000000 in
set_option maxRecDepth 100000 in
theorem c_Prim_shuffle (l : Launch) (D : va_G) (cI cJ cZ cW cT : ClassId) (sz : Nat) (pp : Nat) (dd : Nat) (rr : Nat) (kc : Nat) (mm : Nat) (oo : Nat) (tt : Nat) (ww : Nat) (da : Nat) (dn : Int32) (df : Nat → Int32) (x1 : Int32) (hid : CellsOk 64 dn) : Met l y_Primitives_shuffle w_Primitives_shuffle ({ frames := 3, cells := 0, slots := 0, locals := 63 }) (va_Pc [.ref pp, .int x1] (zP D classes (TY cI cJ cZ cW cT) [(pp, .inr (6, [.ref dd, .ref rr, .ref kc, .ref mm, .ref oo, .ref tt, .ref ww])), (dd, .inr (1, [.ref da, .int dn])), (da, .inl (cI, 64, .inl df))] sz)) (va_Qi (fun (r : Int32) (u : Int32 × (Nat → Int32)) => (r, u) = F_Prim_shuffle dn df x1 ∧ ((CellsOk 64 u.1))) (fun u => zB D classes (TY cI cJ cZ cW cT) (va_A [(pp, .inr (6, [.ref dd, .ref rr, .ref kc, .ref mm, .ref oo, .ref tt, .ref ww])), (dd, .inr (1, [.ref da, .int dn])), (da, .inl (cI, 64, .inl df))] sz) [(pp, .inr (6, [.ref dd, .ref rr, .ref kc, .ref mm, .ref oo, .ref tt, .ref ww])), (dd, .inr (1, [.ref da, .int u.1])), (da, .inl (cI, 64, .inl u.2))]) (va_A [(pp, .inr (6, [.ref dd, .ref rr, .ref kc, .ref mm, .ref oo, .ref tt, .ref ww])), (dd, .inr (1, [.ref da, .int dn])), (da, .inl (cI, 64, .inl df))] sz)) 0 0 (va_A [(pp, .inr (6, [.ref dd, .ref rr, .ref kc, .ref mm, .ref oo, .ref tt, .ref ww])), (dd, .inr (1, [.ref da, .int dn])), (da, .inl (cI, 64, .inl df))] sz) := by
  refine Met.ofW (cc := b_Primitives_shuffle) (maxL := 2) (ret := (some .int)) (by decide) rfl ?_
  intro p e s m args below meth c s₁ B hml hv
  obtain ⟨rfl, hsz, hP, hK, hD0, hE⟩ := hv
  have hx := B.exec
  have hb := B.bytes
  have hr := B.returns
  have hts := atoms_spec (ws := w_Primitives_shuffle) B.pre
  have hT : ∀ w ∈ TB, w.before _ s = true := fun w h => hts w (List.mem_cons_of_mem _ h)
  have hown : s.vm.findClass "ColonMachine$Primitives" = some m.cls := findClass_of_methodNamed B.named
  have hlocks := B.notSynchronized
  subst hsz
  have hD := hD0.self (sz := s.heap.size)
  generalize hAe : va_A [(pp, .inr (6, [.ref dd, .ref rr, .ref kc, .ref mm, .ref oo, .ref tt, .ref ww])), (dd, .inr (1, [.ref da, .int dn])), (da, .inl (cI, 64, .inl df))] s.heap.size = A at hD hE ⊢
  have hA : ∀ q : Nat, s.heap.size ≤ q → A q := fun q h => by rw [← hAe]; exact Or.inr h
  have hS : va_S A s.heap s.heap [] := va_S.rf
  have hl := lv_entry [.ref pp, .int x1] (n := 2) (Nat.le_of_ble_eq_true rfl)
  rw [lg_entry_eq]
  generalize (lg_sl [.ref pp, .int x1] ++ List.replicate (2 - (lg_sl [.ref pp, .int x1]).length) Slot.unset).toArray = ls at hl ⊢
  have hl : lv_has ls 2 [(0, .ref pp), (1, .int x1)] := hl
  have hF := F_Prim_shuffle_e dn df x1
  refine lv_iload_n hx hb d_Primitives_shuffle_0 rfl (lv_at hl 1 rfl) ?_
  by_cases c1 : x1 = 0
  · have hF := hF.trans (if_pos c1)
    refine lv_tableIn (off := 59) (tgt := 60) hx hb d_Primitives_shuffle_1 (by rw [c1]; decide) (by rw [c1]; decide) (by rw [c1]; decide) (by decide) ?_
    refine lv_aload_n hx hb d_Primitives_shuffle_60 rfl (lv_at hl 0 rfl) ?_
    refine lv_aload_n hx hb d_Primitives_shuffle_61 rfl (lv_at hl 0 rfl) ?_
    refine va_get (D := D) (v := .ref dd) (C := "ColonMachine$Primitives") (T := T_Primitives) (N := 7) hx hb hT i_Primitives hown hK hP 0 rfl rfl 0 (by decide) (hT _ fl_Primitives_9) (fun _ h9 => h9) rfl d_Primitives_shuffle_62 ?_
    refine lv_iconst (v := 0) hx hb d_Primitives_shuffle_65 (by decide) ?_
    refine kN_pi (wr := [(pp, .inr (6, [.ref dd, .ref rr, .ref kc, .ref mm, .ref oo, .ref tt, .ref ww]))]) (zV (wc := [(dd, .inr (1, [.ref da, .int dn])), (da, .inl (cI, 64, .inl df))]) (As := [.int 0]) (rest := [.ref pp]) (st0 := [.int 0, .ref dd, .ref pp]) ⟨hx, hb, hml, hown, hT⟩ (c_Cells_at l D cI cJ cZ cW cT s.heap.size dd da 64 dn df 0 hid) (cwV 1 hT (tbV ml_Primitives_116 im_Cells_at se_Cells_at in_Cells co_Cells_at) rfl rfl rfl v_Cells_at ⟨Nat.le_of_ble_eq_true rfl, Nat.le_of_ble_eq_true rfl⟩) hK hE hP hD hS hA [1, 2] rfl rfl 0 rfl rfl rfl hl.1 rfl (Nat.le_of_ble_eq_true rfl) d_Primitives_shuffle_66 ⟨Nat.le_of_ble_eq_true rfl, Nat.le_of_ble_eq_true rfl⟩) hP hD hS hA [1, 2] [0] rfl rfl rfl (by decide) [0, 1, 2] rfl rfl (fun q2 H locs e2 k2 hP hD hS => ?_)
    have hP : va_P D classes [(pp, .inr (6, [.ref dd, .ref rr, .ref kc, .ref mm, .ref oo, .ref tt, .ref ww])), (dd, .inr (1, [.ref da, .int dn])), (da, .inl (cI, 64, .inl df))] H := hP
    have hD : va_D A [(pp, .inr (6, [.ref dd, .ref rr, .ref kc, .ref mm, .ref oo, .ref tt, .ref ww])), (dd, .inr (1, [.ref da, .int dn])), (da, .inl (cI, 64, .inl df))] := hD
    have hF := hF.trans (bd_e e2)
    refine kN_si (wr := []) (fun u : Int32 × (Nat → Int32) => [(pp, .inr (6, [.ref dd, .ref rr, .ref kc, .ref mm, .ref oo, .ref tt, .ref ww])), (dd, .inr (1, [.ref da, .int u.1])), (da, .inl (cI, 64, .inl u.2))]) (zV (wc := [(pp, .inr (6, [.ref dd, .ref rr, .ref kc, .ref mm, .ref oo, .ref tt, .ref ww])), (dd, .inr (1, [.ref da, .int dn])), (da, .inl (cI, 64, .inl df))]) (As := [.int q2]) (rest := []) (st0 := [.int q2, .ref pp]) ⟨hx, hb, hml, hown, hT⟩ (c_Prim_put l D cI cJ cZ cW cT H.size pp dd rr kc mm oo tt ww da dn df q2 hid) (cwV 1 hT (tbV ml_Primitives_119 im_Primitives_put se_Primitives_put in_Primitives co_Primitives_put) rfl rfl rfl v_Primitives_put ⟨Nat.le_of_ble_eq_true rfl, Nat.le_of_ble_eq_true rfl⟩) hK hE hP hD hS hA [0, 1, 2] rfl rfl 0 rfl rfl rfl hl.1 rfl (Nat.le_of_ble_eq_true rfl) d_Primitives_shuffle_69 ⟨Nat.le_of_ble_eq_true rfl, Nat.le_of_ble_eq_true rfl⟩) hP hD hS hA [0, 1, 2] [] rfl rfl rfl (by decide) [0, 1, 2] rfl (fun u => rfl) (fun q3 H locs e3 k3 hP hD hS => ?_)
    have hP : va_P D classes [(pp, .inr (6, [.ref dd, .ref rr, .ref kc, .ref mm, .ref oo, .ref tt, .ref ww])), (dd, .inr (1, [.ref da, .int q3.2.1])), (da, .inl (cI, 64, .inl q3.2.2))] H := hP
    have hD : va_D A [(pp, .inr (6, [.ref dd, .ref rr, .ref kc, .ref mm, .ref oo, .ref tt, .ref ww])), (dd, .inr (1, [.ref da, .int q3.2.1])), (da, .inl (cI, 64, .inl q3.2.2))] := hD
    have hF := hF.trans (bd_e e3)
    exact W.iret (v := q3.1) hx hb hr (fun t ht hW => ⟨⟨_, _, rfl, ⟨hF.symm, k3⟩, ⟨by rw [ht]; exact hP, va_K.moved hW.alike hK, hD⟩⟩, hS.F ht⟩) hS.2.2 d_Primitives_shuffle_72
  · have hF := hF.trans (if_neg c1)
    by_cases c4 : x1 = 1
    · have hF := hF.trans (if_pos c4)
      refine lv_tableIn (off := 72) (tgt := 73) hx hb d_Primitives_shuffle_1 (by rw [c4]; decide) (by rw [c4]; decide) (by rw [c4]; decide) (by decide) ?_
      refine lv_aload_n hx hb d_Primitives_shuffle_73 rfl (lv_at hl 0 rfl) ?_
      refine lv_iconst (v := 1) hx hb d_Primitives_shuffle_74 (by decide) ?_
      refine kN_si (wr := [(da, .inl (cI, 64, .inl df))]) (fun u : Int32 => [(pp, .inr (6, [.ref dd, .ref rr, .ref kc, .ref mm, .ref oo, .ref tt, .ref ww])), (dd, .inr (1, [.ref da, .int u])), (da, .inl (cI, 64, .inl df))]) (zV (wc := [(pp, .inr (6, [.ref dd, .ref rr, .ref kc, .ref mm, .ref oo, .ref tt, .ref ww])), (dd, .inr (1, [.ref da, .int dn]))]) (As := [.int 1]) (rest := []) (st0 := [.int 1, .ref pp]) ⟨hx, hb, hml, hown, hT⟩ (c_Prim_dropped l D cI cJ cZ cW cT s.heap.size pp dd rr kc mm oo tt ww da dn 1 hid (by have := ti_lo dn; have := ti_hi dn; have := ti_lo x1; have := ti_hi x1; have t0 : Int32.toInt 0 = 0 := rfl; have t1 : Int32.toInt 1 = 1 := rfl; have t64 : Int32.toInt 64 = 64 := rfl; (try simp only [true_or, or_true, true_and, and_true, z_tn, CellsOk, CallsOk, TextOk, MemOk, OutOk, Int32.lt_iff_toInt_lt, Int32.le_iff_toInt_le, ← Int32.toInt_inj, Int32.toInt_add, Int32.toInt_sub, Int32.toInt_mul, Int32.toInt_neg, zbm, zbm', t0, t1, t64] at c1 c4 hid ⊢) <;> omega)) (cwV 1 hT (tbV ml_Primitives_122 im_Primitives_dropped se_Primitives_dropped in_Primitives co_Primitives_dropped) rfl rfl rfl v_Primitives_dropped ⟨Nat.le_of_ble_eq_true rfl, Nat.le_of_ble_eq_true rfl⟩) hK hE hP hD hS hA [0, 1] rfl rfl 0 rfl rfl rfl hl.1 rfl (Nat.le_of_ble_eq_true rfl) d_Primitives_shuffle_75 ⟨Nat.le_of_ble_eq_true rfl, Nat.le_of_ble_eq_true rfl⟩) hP hD hS hA [0, 1] [2] rfl rfl rfl (by decide) [1, 2, 0] rfl (fun u => rfl) (fun q5 H locs e5 k5 hP hD hS => ?_)
      have hP : va_P D classes [(pp, .inr (6, [.ref dd, .ref rr, .ref kc, .ref mm, .ref oo, .ref tt, .ref ww])), (dd, .inr (1, [.ref da, .int q5.2])), (da, .inl (cI, 64, .inl df))] H := hP
      have hD : va_D A [(pp, .inr (6, [.ref dd, .ref rr, .ref kc, .ref mm, .ref oo, .ref tt, .ref ww])), (dd, .inr (1, [.ref da, .int q5.2])), (da, .inl (cI, 64, .inl df))] := hD
      have hF := hF.trans (bd_e e5)
      exact W.iret (v := q5.1) hx hb hr (fun t ht hW => ⟨⟨_, _, rfl, ⟨hF.symm, k5⟩, ⟨by rw [ht]; exact hP, va_K.moved hW.alike hK, hD⟩⟩, hS.F ht⟩) hS.2.2 d_Primitives_shuffle_78
    · have hF := hF.trans (if_neg c4)
      by_cases c6 : x1 = 2
      · have hF := hF.trans (if_pos c6)
        refine lv_tableIn (off := 78) (tgt := 79) hx hb d_Primitives_shuffle_1 (by rw [c6]; decide) (by rw [c6]; decide) (by rw [c6]; decide) (by decide) ?_
        refine lv_aload_n hx hb d_Primitives_shuffle_79 rfl (lv_at hl 0 rfl) ?_
        refine kN_si (wr := []) (fun u : (Nat → Int32) => [(pp, .inr (6, [.ref dd, .ref rr, .ref kc, .ref mm, .ref oo, .ref tt, .ref ww])), (dd, .inr (1, [.ref da, .int dn])), (da, .inl (cI, 64, .inl u))]) (zV (wc := [(pp, .inr (6, [.ref dd, .ref rr, .ref kc, .ref mm, .ref oo, .ref tt, .ref ww])), (dd, .inr (1, [.ref da, .int dn])), (da, .inl (cI, 64, .inl df))]) (As := []) (rest := []) (st0 := [.ref pp]) ⟨hx, hb, hml, hown, hT⟩ (c_Prim_swap l D cI cJ cZ cW cT s.heap.size pp dd rr kc mm oo tt ww da dn df hid) (cwV 0 hT (tbV ml_Primitives_125 im_Primitives_swap se_Primitives_swap in_Primitives co_Primitives_swap) rfl rfl rfl v_Primitives_swap ⟨Nat.le_of_ble_eq_true rfl, Nat.le_of_ble_eq_true rfl⟩) hK hE hP hD hS hA [0, 1, 2] rfl rfl 0 rfl rfl rfl hl.1 rfl (Nat.le_of_ble_eq_true rfl) d_Primitives_shuffle_80 ⟨Nat.le_of_ble_eq_true rfl, Nat.le_of_ble_eq_true rfl⟩) hP hD hS hA [0, 1, 2] [] rfl rfl rfl (by decide) [0, 1, 2] rfl (fun u => rfl) (fun q7 H locs e7 k7 hP hD hS => ?_)
        have hP : va_P D classes [(pp, .inr (6, [.ref dd, .ref rr, .ref kc, .ref mm, .ref oo, .ref tt, .ref ww])), (dd, .inr (1, [.ref da, .int dn])), (da, .inl (cI, 64, .inl q7.2))] H := hP
        have hD : va_D A [(pp, .inr (6, [.ref dd, .ref rr, .ref kc, .ref mm, .ref oo, .ref tt, .ref ww])), (dd, .inr (1, [.ref da, .int dn])), (da, .inl (cI, 64, .inl q7.2))] := hD
        have hF := hF.trans (bd_e e7)
        exact W.iret (v := q7.1) hx hb hr (fun t ht hW => ⟨⟨_, _, rfl, ⟨hF.symm, hid⟩, ⟨by rw [ht]; exact hP, va_K.moved hW.alike hK, hD⟩⟩, hS.F ht⟩) hS.2.2 d_Primitives_shuffle_83
      · have hF := hF.trans (if_neg c6)
        by_cases c8 : x1 = 3
        · have hF := hF.trans (if_pos c8)
          refine lv_tableIn (off := 83) (tgt := 84) hx hb d_Primitives_shuffle_1 (by rw [c8]; decide) (by rw [c8]; decide) (by rw [c8]; decide) (by decide) ?_
          refine lv_aload_n hx hb d_Primitives_shuffle_84 rfl (lv_at hl 0 rfl) ?_
          refine lv_aload_n hx hb d_Primitives_shuffle_85 rfl (lv_at hl 0 rfl) ?_
          refine va_get (D := D) (v := .ref dd) (C := "ColonMachine$Primitives") (T := T_Primitives) (N := 7) hx hb hT i_Primitives hown hK hP 0 rfl rfl 0 (by decide) (hT _ fl_Primitives_9) (fun _ h9 => h9) rfl d_Primitives_shuffle_86 ?_
          refine lv_iconst (v := 1) hx hb d_Primitives_shuffle_89 (by decide) ?_
          refine kN_pi (wr := [(pp, .inr (6, [.ref dd, .ref rr, .ref kc, .ref mm, .ref oo, .ref tt, .ref ww]))]) (zV (wc := [(dd, .inr (1, [.ref da, .int dn])), (da, .inl (cI, 64, .inl df))]) (As := [.int 1]) (rest := [.ref pp]) (st0 := [.int 1, .ref dd, .ref pp]) ⟨hx, hb, hml, hown, hT⟩ (c_Cells_at l D cI cJ cZ cW cT s.heap.size dd da 64 dn df 1 hid) (cwV 1 hT (tbV ml_Primitives_116 im_Cells_at se_Cells_at in_Cells co_Cells_at) rfl rfl rfl v_Cells_at ⟨Nat.le_of_ble_eq_true rfl, Nat.le_of_ble_eq_true rfl⟩) hK hE hP hD hS hA [1, 2] rfl rfl 0 rfl rfl rfl hl.1 rfl (Nat.le_of_ble_eq_true rfl) d_Primitives_shuffle_90 ⟨Nat.le_of_ble_eq_true rfl, Nat.le_of_ble_eq_true rfl⟩) hP hD hS hA [1, 2] [0] rfl rfl rfl (by decide) [0, 1, 2] rfl rfl (fun q9 H locs e9 k9 hP hD hS => ?_)
          have hP : va_P D classes [(pp, .inr (6, [.ref dd, .ref rr, .ref kc, .ref mm, .ref oo, .ref tt, .ref ww])), (dd, .inr (1, [.ref da, .int dn])), (da, .inl (cI, 64, .inl df))] H := hP
          have hD : va_D A [(pp, .inr (6, [.ref dd, .ref rr, .ref kc, .ref mm, .ref oo, .ref tt, .ref ww])), (dd, .inr (1, [.ref da, .int dn])), (da, .inl (cI, 64, .inl df))] := hD
          have hF := hF.trans (bd_e e9)
          refine kN_si (wr := []) (fun u : Int32 × (Nat → Int32) => [(pp, .inr (6, [.ref dd, .ref rr, .ref kc, .ref mm, .ref oo, .ref tt, .ref ww])), (dd, .inr (1, [.ref da, .int u.1])), (da, .inl (cI, 64, .inl u.2))]) (zV (wc := [(pp, .inr (6, [.ref dd, .ref rr, .ref kc, .ref mm, .ref oo, .ref tt, .ref ww])), (dd, .inr (1, [.ref da, .int dn])), (da, .inl (cI, 64, .inl df))]) (As := [.int q9]) (rest := []) (st0 := [.int q9, .ref pp]) ⟨hx, hb, hml, hown, hT⟩ (c_Prim_put l D cI cJ cZ cW cT H.size pp dd rr kc mm oo tt ww da dn df q9 hid) (cwV 1 hT (tbV ml_Primitives_119 im_Primitives_put se_Primitives_put in_Primitives co_Primitives_put) rfl rfl rfl v_Primitives_put ⟨Nat.le_of_ble_eq_true rfl, Nat.le_of_ble_eq_true rfl⟩) hK hE hP hD hS hA [0, 1, 2] rfl rfl 0 rfl rfl rfl hl.1 rfl (Nat.le_of_ble_eq_true rfl) d_Primitives_shuffle_93 ⟨Nat.le_of_ble_eq_true rfl, Nat.le_of_ble_eq_true rfl⟩) hP hD hS hA [0, 1, 2] [] rfl rfl rfl (by decide) [0, 1, 2] rfl (fun u => rfl) (fun q10 H locs e10 k10 hP hD hS => ?_)
          have hP : va_P D classes [(pp, .inr (6, [.ref dd, .ref rr, .ref kc, .ref mm, .ref oo, .ref tt, .ref ww])), (dd, .inr (1, [.ref da, .int q10.2.1])), (da, .inl (cI, 64, .inl q10.2.2))] H := hP
          have hD : va_D A [(pp, .inr (6, [.ref dd, .ref rr, .ref kc, .ref mm, .ref oo, .ref tt, .ref ww])), (dd, .inr (1, [.ref da, .int q10.2.1])), (da, .inl (cI, 64, .inl q10.2.2))] := hD
          have hF := hF.trans (bd_e e10)
          exact W.iret (v := q10.1) hx hb hr (fun t ht hW => ⟨⟨_, _, rfl, ⟨hF.symm, k10⟩, ⟨by rw [ht]; exact hP, va_K.moved hW.alike hK, hD⟩⟩, hS.F ht⟩) hS.2.2 d_Primitives_shuffle_96
        · have hF := hF.trans (if_neg c8)
          by_cases c11 : x1 = 4
          · have hF := hF.trans (if_pos c11)
            refine lv_tableIn (off := 96) (tgt := 97) hx hb d_Primitives_shuffle_1 (by rw [c11]; decide) (by rw [c11]; decide) (by rw [c11]; decide) (by decide) ?_
            refine lv_aload_n hx hb d_Primitives_shuffle_97 rfl (lv_at hl 0 rfl) ?_
            refine kN_si (wr := []) (fun u : (Nat → Int32) => [(pp, .inr (6, [.ref dd, .ref rr, .ref kc, .ref mm, .ref oo, .ref tt, .ref ww])), (dd, .inr (1, [.ref da, .int dn])), (da, .inl (cI, 64, .inl u))]) (zV (wc := [(pp, .inr (6, [.ref dd, .ref rr, .ref kc, .ref mm, .ref oo, .ref tt, .ref ww])), (dd, .inr (1, [.ref da, .int dn])), (da, .inl (cI, 64, .inl df))]) (As := []) (rest := []) (st0 := [.ref pp]) ⟨hx, hb, hml, hown, hT⟩ (c_Prim_rot l D cI cJ cZ cW cT s.heap.size pp dd rr kc mm oo tt ww da dn df hid) (cwV 0 hT (tbV ml_Primitives_128 im_Primitives_rot se_Primitives_rot in_Primitives co_Primitives_rot) rfl rfl rfl v_Primitives_rot ⟨Nat.le_of_ble_eq_true rfl, Nat.le_of_ble_eq_true rfl⟩) hK hE hP hD hS hA [0, 1, 2] rfl rfl 0 rfl rfl rfl hl.1 rfl (Nat.le_of_ble_eq_true rfl) d_Primitives_shuffle_98 ⟨Nat.le_of_ble_eq_true rfl, Nat.le_of_ble_eq_true rfl⟩) hP hD hS hA [0, 1, 2] [] rfl rfl rfl (by decide) [0, 1, 2] rfl (fun u => rfl) (fun q12 H locs e12 k12 hP hD hS => ?_)
            have hP : va_P D classes [(pp, .inr (6, [.ref dd, .ref rr, .ref kc, .ref mm, .ref oo, .ref tt, .ref ww])), (dd, .inr (1, [.ref da, .int dn])), (da, .inl (cI, 64, .inl q12.2))] H := hP
            have hD : va_D A [(pp, .inr (6, [.ref dd, .ref rr, .ref kc, .ref mm, .ref oo, .ref tt, .ref ww])), (dd, .inr (1, [.ref da, .int dn])), (da, .inl (cI, 64, .inl q12.2))] := hD
            have hF := hF.trans (bd_e e12)
            exact W.iret (v := q12.1) hx hb hr (fun t ht hW => ⟨⟨_, _, rfl, ⟨hF.symm, hid⟩, ⟨by rw [ht]; exact hP, va_K.moved hW.alike hK, hD⟩⟩, hS.F ht⟩) hS.2.2 d_Primitives_shuffle_101
          · have hF := hF.trans (if_neg c11)
            by_cases c13 : x1 = 5
            · have hF := hF.trans (if_pos c13)
              refine lv_tableIn (off := 101) (tgt := 102) hx hb d_Primitives_shuffle_1 (by rw [c13]; decide) (by rw [c13]; decide) (by rw [c13]; decide) (by decide) ?_
              refine lv_aload_n hx hb d_Primitives_shuffle_102 rfl (lv_at hl 0 rfl) ?_
              refine kN_si (wr := []) (fun u : Int32 × (Nat → Int32) => [(pp, .inr (6, [.ref dd, .ref rr, .ref kc, .ref mm, .ref oo, .ref tt, .ref ww])), (dd, .inr (1, [.ref da, .int u.1])), (da, .inl (cI, 64, .inl u.2))]) (zV (wc := [(pp, .inr (6, [.ref dd, .ref rr, .ref kc, .ref mm, .ref oo, .ref tt, .ref ww])), (dd, .inr (1, [.ref da, .int dn])), (da, .inl (cI, 64, .inl df))]) (As := []) (rest := []) (st0 := [.ref pp]) ⟨hx, hb, hml, hown, hT⟩ (c_Prim_nip l D cI cJ cZ cW cT s.heap.size pp dd rr kc mm oo tt ww da dn df hid) (cwV 0 hT (tbV ml_Primitives_131 im_Primitives_nip se_Primitives_nip in_Primitives co_Primitives_nip) rfl rfl rfl v_Primitives_nip ⟨Nat.le_of_ble_eq_true rfl, Nat.le_of_ble_eq_true rfl⟩) hK hE hP hD hS hA [0, 1, 2] rfl rfl 0 rfl rfl rfl hl.1 rfl (Nat.le_of_ble_eq_true rfl) d_Primitives_shuffle_103 ⟨Nat.le_of_ble_eq_true rfl, Nat.le_of_ble_eq_true rfl⟩) hP hD hS hA [0, 1, 2] [] rfl rfl rfl (by decide) [0, 1, 2] rfl (fun u => rfl) (fun q14 H locs e14 k14 hP hD hS => ?_)
              have hP : va_P D classes [(pp, .inr (6, [.ref dd, .ref rr, .ref kc, .ref mm, .ref oo, .ref tt, .ref ww])), (dd, .inr (1, [.ref da, .int q14.2.1])), (da, .inl (cI, 64, .inl q14.2.2))] H := hP
              have hD : va_D A [(pp, .inr (6, [.ref dd, .ref rr, .ref kc, .ref mm, .ref oo, .ref tt, .ref ww])), (dd, .inr (1, [.ref da, .int q14.2.1])), (da, .inl (cI, 64, .inl q14.2.2))] := hD
              have hF := hF.trans (bd_e e14)
              exact W.iret (v := q14.1) hx hb hr (fun t ht hW => ⟨⟨_, _, rfl, ⟨hF.symm, k14⟩, ⟨by rw [ht]; exact hP, va_K.moved hW.alike hK, hD⟩⟩, hS.F ht⟩) hS.2.2 d_Primitives_shuffle_106
            · have hF := hF.trans (if_neg c13)
              by_cases c15 : x1 = 6
              · have hF := hF.trans (if_pos c15)
                refine lv_tableIn (off := 106) (tgt := 107) hx hb d_Primitives_shuffle_1 (by rw [c15]; decide) (by rw [c15]; decide) (by rw [c15]; decide) (by decide) ?_
                refine lv_aload_n hx hb d_Primitives_shuffle_107 rfl (lv_at hl 0 rfl) ?_
                refine kN_si (wr := []) (fun u : Int32 × (Nat → Int32) => [(pp, .inr (6, [.ref dd, .ref rr, .ref kc, .ref mm, .ref oo, .ref tt, .ref ww])), (dd, .inr (1, [.ref da, .int u.1])), (da, .inl (cI, 64, .inl u.2))]) (zV (wc := [(pp, .inr (6, [.ref dd, .ref rr, .ref kc, .ref mm, .ref oo, .ref tt, .ref ww])), (dd, .inr (1, [.ref da, .int dn])), (da, .inl (cI, 64, .inl df))]) (As := []) (rest := []) (st0 := [.ref pp]) ⟨hx, hb, hml, hown, hT⟩ (c_Prim_tuck l D cI cJ cZ cW cT s.heap.size pp dd rr kc mm oo tt ww da dn df hid) (cwV 0 hT (tbV ml_Primitives_134 im_Primitives_tuck se_Primitives_tuck in_Primitives co_Primitives_tuck) rfl rfl rfl v_Primitives_tuck ⟨Nat.le_of_ble_eq_true rfl, Nat.le_of_ble_eq_true rfl⟩) hK hE hP hD hS hA [0, 1, 2] rfl rfl 0 rfl rfl rfl hl.1 rfl (Nat.le_of_ble_eq_true rfl) d_Primitives_shuffle_108 ⟨Nat.le_of_ble_eq_true rfl, Nat.le_of_ble_eq_true rfl⟩) hP hD hS hA [0, 1, 2] [] rfl rfl rfl (by decide) [0, 1, 2] rfl (fun u => rfl) (fun q16 H locs e16 k16 hP hD hS => ?_)
                have hP : va_P D classes [(pp, .inr (6, [.ref dd, .ref rr, .ref kc, .ref mm, .ref oo, .ref tt, .ref ww])), (dd, .inr (1, [.ref da, .int q16.2.1])), (da, .inl (cI, 64, .inl q16.2.2))] H := hP
                have hD : va_D A [(pp, .inr (6, [.ref dd, .ref rr, .ref kc, .ref mm, .ref oo, .ref tt, .ref ww])), (dd, .inr (1, [.ref da, .int q16.2.1])), (da, .inl (cI, 64, .inl q16.2.2))] := hD
                have hF := hF.trans (bd_e e16)
                exact W.iret (v := q16.1) hx hb hr (fun t ht hW => ⟨⟨_, _, rfl, ⟨hF.symm, k16⟩, ⟨by rw [ht]; exact hP, va_K.moved hW.alike hK, hD⟩⟩, hS.F ht⟩) hS.2.2 d_Primitives_shuffle_111
              · have hF := hF.trans (if_neg c15)
                by_cases c17 : x1 = 7
                · have hF := hF.trans (if_pos c17)
                  refine lv_tableIn (off := 111) (tgt := 112) hx hb d_Primitives_shuffle_1 (by rw [c17]; decide) (by rw [c17]; decide) (by rw [c17]; decide) (by decide) ?_
                  refine lv_aload_n hx hb d_Primitives_shuffle_112 rfl (lv_at hl 0 rfl) ?_
                  refine kN_si (wr := []) (fun u : Int32 × (Nat → Int32) => [(pp, .inr (6, [.ref dd, .ref rr, .ref kc, .ref mm, .ref oo, .ref tt, .ref ww])), (dd, .inr (1, [.ref da, .int u.1])), (da, .inl (cI, 64, .inl u.2))]) (zV (wc := [(pp, .inr (6, [.ref dd, .ref rr, .ref kc, .ref mm, .ref oo, .ref tt, .ref ww])), (dd, .inr (1, [.ref da, .int dn])), (da, .inl (cI, 64, .inl df))]) (As := []) (rest := []) (st0 := [.ref pp]) ⟨hx, hb, hml, hown, hT⟩ (c_Prim_maybeDup l D cI cJ cZ cW cT s.heap.size pp dd rr kc mm oo tt ww da dn df hid) (cwV 0 hT (tbV ml_Primitives_137 im_Primitives_maybeDup se_Primitives_maybeDup in_Primitives co_Primitives_maybeDup) rfl rfl rfl v_Primitives_maybeDup ⟨Nat.le_of_ble_eq_true rfl, Nat.le_of_ble_eq_true rfl⟩) hK hE hP hD hS hA [0, 1, 2] rfl rfl 0 rfl rfl rfl hl.1 rfl (Nat.le_of_ble_eq_true rfl) d_Primitives_shuffle_113 ⟨Nat.le_of_ble_eq_true rfl, Nat.le_of_ble_eq_true rfl⟩) hP hD hS hA [0, 1, 2] [] rfl rfl rfl (by decide) [0, 1, 2] rfl (fun u => rfl) (fun q18 H locs e18 k18 hP hD hS => ?_)
                  have hP : va_P D classes [(pp, .inr (6, [.ref dd, .ref rr, .ref kc, .ref mm, .ref oo, .ref tt, .ref ww])), (dd, .inr (1, [.ref da, .int q18.2.1])), (da, .inl (cI, 64, .inl q18.2.2))] H := hP
                  have hD : va_D A [(pp, .inr (6, [.ref dd, .ref rr, .ref kc, .ref mm, .ref oo, .ref tt, .ref ww])), (dd, .inr (1, [.ref da, .int q18.2.1])), (da, .inl (cI, 64, .inl q18.2.2))] := hD
                  have hF := hF.trans (bd_e e18)
                  exact W.iret (v := q18.1) hx hb hr (fun t ht hW => ⟨⟨_, _, rfl, ⟨hF.symm, k18⟩, ⟨by rw [ht]; exact hP, va_K.moved hW.alike hK, hD⟩⟩, hS.F ht⟩) hS.2.2 d_Primitives_shuffle_116
                · have hF := hF.trans (if_neg c17)
                  by_cases c19 : x1 = 8
                  · have hF := hF.trans (if_pos c19)
                    refine lv_tableIn (off := 116) (tgt := 117) hx hb d_Primitives_shuffle_1 (by rw [c19]; decide) (by rw [c19]; decide) (by rw [c19]; decide) (by decide) ?_
                    refine lv_aload_n hx hb d_Primitives_shuffle_117 rfl (lv_at hl 0 rfl) ?_
                    refine kN_si (wr := []) (fun u : (Nat → Int32) => [(pp, .inr (6, [.ref dd, .ref rr, .ref kc, .ref mm, .ref oo, .ref tt, .ref ww])), (dd, .inr (1, [.ref da, .int dn])), (da, .inl (cI, 64, .inl u))]) (zV (wc := [(pp, .inr (6, [.ref dd, .ref rr, .ref kc, .ref mm, .ref oo, .ref tt, .ref ww])), (dd, .inr (1, [.ref da, .int dn])), (da, .inl (cI, 64, .inl df))]) (As := []) (rest := []) (st0 := [.ref pp]) ⟨hx, hb, hml, hown, hT⟩ (c_Prim_pickCell l D cI cJ cZ cW cT s.heap.size pp dd rr kc mm oo tt ww da dn df hid) (cwV 0 hT (tbV ml_Primitives_140 im_Primitives_pickCell se_Primitives_pickCell in_Primitives co_Primitives_pickCell) rfl rfl rfl v_Primitives_pickCell ⟨Nat.le_of_ble_eq_true rfl, Nat.le_of_ble_eq_true rfl⟩) hK hE hP hD hS hA [0, 1, 2] rfl rfl 0 rfl rfl rfl hl.1 rfl (Nat.le_of_ble_eq_true rfl) d_Primitives_shuffle_118 ⟨Nat.le_of_ble_eq_true rfl, Nat.le_of_ble_eq_true rfl⟩) hP hD hS hA [0, 1, 2] [] rfl rfl rfl (by decide) [0, 1, 2] rfl (fun u => rfl) (fun q20 H locs e20 k20 hP hD hS => ?_)
                    have hP : va_P D classes [(pp, .inr (6, [.ref dd, .ref rr, .ref kc, .ref mm, .ref oo, .ref tt, .ref ww])), (dd, .inr (1, [.ref da, .int dn])), (da, .inl (cI, 64, .inl q20.2))] H := hP
                    have hD : va_D A [(pp, .inr (6, [.ref dd, .ref rr, .ref kc, .ref mm, .ref oo, .ref tt, .ref ww])), (dd, .inr (1, [.ref da, .int dn])), (da, .inl (cI, 64, .inl q20.2))] := hD
                    have hF := hF.trans (bd_e e20)
                    exact W.iret (v := q20.1) hx hb hr (fun t ht hW => ⟨⟨_, _, rfl, ⟨hF.symm, hid⟩, ⟨by rw [ht]; exact hP, va_K.moved hW.alike hK, hD⟩⟩, hS.F ht⟩) hS.2.2 d_Primitives_shuffle_121
                  · have hF := hF.trans (if_neg c19)
                    by_cases c21 : x1 = 9
                    · have hF := hF.trans (if_pos c21)
                      refine lv_tableIn (off := 121) (tgt := 122) hx hb d_Primitives_shuffle_1 (by rw [c21]; decide) (by rw [c21]; decide) (by rw [c21]; decide) (by decide) ?_
                      refine lv_aload_n hx hb d_Primitives_shuffle_122 rfl (lv_at hl 0 rfl) ?_
                      refine lv_aload_n hx hb d_Primitives_shuffle_123 rfl (lv_at hl 0 rfl) ?_
                      refine va_get (D := D) (v := .ref dd) (C := "ColonMachine$Primitives") (T := T_Primitives) (N := 7) hx hb hT i_Primitives hown hK hP 0 rfl rfl 0 (by decide) (hT _ fl_Primitives_9) (fun _ h9 => h9) rfl d_Primitives_shuffle_124 ?_
                      refine kN_pi (wr := [(pp, .inr (6, [.ref dd, .ref rr, .ref kc, .ref mm, .ref oo, .ref tt, .ref ww])), (da, .inl (cI, 64, .inl df))]) (zV (wc := [(dd, .inr (1, [.ref da, .int dn]))]) (As := []) (rest := [.ref pp]) (st0 := [.ref dd, .ref pp]) ⟨hx, hb, hml, hown, hT⟩ (c_Cells_size l D cI cJ cZ cW cT s.heap.size dd da 64 dn hid) (cwV 0 hT (tbV ml_Primitives_101 im_Cells_size se_Cells_size in_Cells co_Cells_size) rfl rfl rfl v_Cells_size ⟨Nat.le_of_ble_eq_true rfl, Nat.le_of_ble_eq_true rfl⟩) hK hE hP hD hS hA [1] rfl rfl 0 rfl rfl rfl hl.1 rfl (Nat.le_of_ble_eq_true rfl) d_Primitives_shuffle_127 ⟨Nat.le_of_ble_eq_true rfl, Nat.le_of_ble_eq_true rfl⟩) hP hD hS hA [1] [0, 2] rfl rfl rfl (by decide) [0, 2, 1] rfl rfl (fun q22 H locs e22 k22 hP hD hS => ?_)
                      have hP : va_P D classes [(pp, .inr (6, [.ref dd, .ref rr, .ref kc, .ref mm, .ref oo, .ref tt, .ref ww])), (dd, .inr (1, [.ref da, .int dn])), (da, .inl (cI, 64, .inl df))] H := hP
                      have hD : va_D A [(pp, .inr (6, [.ref dd, .ref rr, .ref kc, .ref mm, .ref oo, .ref tt, .ref ww])), (dd, .inr (1, [.ref da, .int dn])), (da, .inl (cI, 64, .inl df))] := hD
                      have hF := hF.trans (bd_e e22)
                      refine kN_si (wr := []) (fun u : Int32 × (Nat → Int32) => [(pp, .inr (6, [.ref dd, .ref rr, .ref kc, .ref mm, .ref oo, .ref tt, .ref ww])), (dd, .inr (1, [.ref da, .int u.1])), (da, .inl (cI, 64, .inl u.2))]) (zV (wc := [(pp, .inr (6, [.ref dd, .ref rr, .ref kc, .ref mm, .ref oo, .ref tt, .ref ww])), (dd, .inr (1, [.ref da, .int dn])), (da, .inl (cI, 64, .inl df))]) (As := [.int q22]) (rest := []) (st0 := [.int q22, .ref pp]) ⟨hx, hb, hml, hown, hT⟩ (c_Prim_put l D cI cJ cZ cW cT H.size pp dd rr kc mm oo tt ww da dn df q22 hid) (cwV 1 hT (tbV ml_Primitives_119 im_Primitives_put se_Primitives_put in_Primitives co_Primitives_put) rfl rfl rfl v_Primitives_put ⟨Nat.le_of_ble_eq_true rfl, Nat.le_of_ble_eq_true rfl⟩) hK hE hP hD hS hA [0, 1, 2] rfl rfl 0 rfl rfl rfl hl.1 rfl (Nat.le_of_ble_eq_true rfl) d_Primitives_shuffle_130 ⟨Nat.le_of_ble_eq_true rfl, Nat.le_of_ble_eq_true rfl⟩) hP hD hS hA [0, 1, 2] [] rfl rfl rfl (by decide) [0, 1, 2] rfl (fun u => rfl) (fun q23 H locs e23 k23 hP hD hS => ?_)
                      have hP : va_P D classes [(pp, .inr (6, [.ref dd, .ref rr, .ref kc, .ref mm, .ref oo, .ref tt, .ref ww])), (dd, .inr (1, [.ref da, .int q23.2.1])), (da, .inl (cI, 64, .inl q23.2.2))] H := hP
                      have hD : va_D A [(pp, .inr (6, [.ref dd, .ref rr, .ref kc, .ref mm, .ref oo, .ref tt, .ref ww])), (dd, .inr (1, [.ref da, .int q23.2.1])), (da, .inl (cI, 64, .inl q23.2.2))] := hD
                      have hF := hF.trans (bd_e e23)
                      exact W.iret (v := q23.1) hx hb hr (fun t ht hW => ⟨⟨_, _, rfl, ⟨hF.symm, k23⟩, ⟨by rw [ht]; exact hP, va_K.moved hW.alike hK, hD⟩⟩, hS.F ht⟩) hS.2.2 d_Primitives_shuffle_133
                    · have hF := hF.trans (if_neg c21)
                      by_cases c24 : x1 = 10
                      · have hF := hF.trans (if_pos c24)
                        refine lv_tableIn (off := 133) (tgt := 134) hx hb d_Primitives_shuffle_1 (by rw [c24]; decide) (by rw [c24]; decide) (by rw [c24]; decide) (by decide) ?_
                        refine lv_aload_n hx hb d_Primitives_shuffle_134 rfl (lv_at hl 0 rfl) ?_
                        refine kN_si (wr := []) (fun u : Int32 × (Nat → Int32) => [(pp, .inr (6, [.ref dd, .ref rr, .ref kc, .ref mm, .ref oo, .ref tt, .ref ww])), (dd, .inr (1, [.ref da, .int u.1])), (da, .inl (cI, 64, .inl u.2))]) (zV (wc := [(pp, .inr (6, [.ref dd, .ref rr, .ref kc, .ref mm, .ref oo, .ref tt, .ref ww])), (dd, .inr (1, [.ref da, .int dn])), (da, .inl (cI, 64, .inl df))]) (As := []) (rest := []) (st0 := [.ref pp]) ⟨hx, hb, hml, hown, hT⟩ (c_Prim_twoDup l D cI cJ cZ cW cT s.heap.size pp dd rr kc mm oo tt ww da dn df hid) (cwV 0 hT (tbV ml_Primitives_143 im_Primitives_twoDup se_Primitives_twoDup in_Primitives co_Primitives_twoDup) rfl rfl rfl v_Primitives_twoDup ⟨Nat.le_of_ble_eq_true rfl, Nat.le_of_ble_eq_true rfl⟩) hK hE hP hD hS hA [0, 1, 2] rfl rfl 0 rfl rfl rfl hl.1 rfl (Nat.le_of_ble_eq_true rfl) d_Primitives_shuffle_135 ⟨Nat.le_of_ble_eq_true rfl, Nat.le_of_ble_eq_true rfl⟩) hP hD hS hA [0, 1, 2] [] rfl rfl rfl (by decide) [0, 1, 2] rfl (fun u => rfl) (fun q25 H locs e25 k25 hP hD hS => ?_)
                        have hP : va_P D classes [(pp, .inr (6, [.ref dd, .ref rr, .ref kc, .ref mm, .ref oo, .ref tt, .ref ww])), (dd, .inr (1, [.ref da, .int q25.2.1])), (da, .inl (cI, 64, .inl q25.2.2))] H := hP
                        have hD : va_D A [(pp, .inr (6, [.ref dd, .ref rr, .ref kc, .ref mm, .ref oo, .ref tt, .ref ww])), (dd, .inr (1, [.ref da, .int q25.2.1])), (da, .inl (cI, 64, .inl q25.2.2))] := hD
                        have hF := hF.trans (bd_e e25)
                        exact W.iret (v := q25.1) hx hb hr (fun t ht hW => ⟨⟨_, _, rfl, ⟨hF.symm, k25⟩, ⟨by rw [ht]; exact hP, va_K.moved hW.alike hK, hD⟩⟩, hS.F ht⟩) hS.2.2 d_Primitives_shuffle_138
                      · have hF := hF.trans (if_neg c24)
                        refine lv_tableD (tgt := 139) hx hb [0, 1, 2, 3, 4, 5, 6, 7, 8, 9, 10] d_Primitives_shuffle_1 rfl (by decide) (List.forall_mem_cons.2 ⟨lv_neT c1 rfl, List.forall_mem_cons.2 ⟨lv_neT c4 rfl, List.forall_mem_cons.2 ⟨lv_neT c6 rfl, List.forall_mem_cons.2 ⟨lv_neT c8 rfl, List.forall_mem_cons.2 ⟨lv_neT c11 rfl, List.forall_mem_cons.2 ⟨lv_neT c13 rfl, List.forall_mem_cons.2 ⟨lv_neT c15 rfl, List.forall_mem_cons.2 ⟨lv_neT c17 rfl, List.forall_mem_cons.2 ⟨lv_neT c19 rfl, List.forall_mem_cons.2 ⟨lv_neT c21 rfl, List.forall_mem_cons.2 ⟨lv_neT c24 rfl, fun _ h => absurd h List.not_mem_nil⟩⟩⟩⟩⟩⟩⟩⟩⟩⟩⟩) (by decide) ?_
                        refine lv_aload_n hx hb d_Primitives_shuffle_139 rfl (lv_at hl 0 rfl) ?_
                        refine lv_iconst (v := 2) hx hb d_Primitives_shuffle_140 (by decide) ?_
                        refine kN_si (wr := [(da, .inl (cI, 64, .inl df))]) (fun u : Int32 => [(pp, .inr (6, [.ref dd, .ref rr, .ref kc, .ref mm, .ref oo, .ref tt, .ref ww])), (dd, .inr (1, [.ref da, .int u])), (da, .inl (cI, 64, .inl df))]) (zV (wc := [(pp, .inr (6, [.ref dd, .ref rr, .ref kc, .ref mm, .ref oo, .ref tt, .ref ww])), (dd, .inr (1, [.ref da, .int dn]))]) (As := [.int 2]) (rest := []) (st0 := [.int 2, .ref pp]) ⟨hx, hb, hml, hown, hT⟩ (c_Prim_dropped l D cI cJ cZ cW cT s.heap.size pp dd rr kc mm oo tt ww da dn 2 hid (by have := ti_lo dn; have := ti_hi dn; have := ti_lo x1; have := ti_hi x1; have t0 : Int32.toInt 0 = 0 := rfl; have t2 : Int32.toInt 2 = 2 := rfl; have t64 : Int32.toInt 64 = 64 := rfl; have t1 : Int32.toInt 1 = 1 := rfl; have t3 : Int32.toInt 3 = 3 := rfl; have t4 : Int32.toInt 4 = 4 := rfl; have t5 : Int32.toInt 5 = 5 := rfl; have t6 : Int32.toInt 6 = 6 := rfl; have t7 : Int32.toInt 7 = 7 := rfl; have t8 : Int32.toInt 8 = 8 := rfl; have t9 : Int32.toInt 9 = 9 := rfl; have t10 : Int32.toInt 10 = 10 := rfl; (try simp only [true_or, or_true, true_and, and_true, z_tn, CellsOk, CallsOk, TextOk, MemOk, OutOk, Int32.lt_iff_toInt_lt, Int32.le_iff_toInt_le, ← Int32.toInt_inj, Int32.toInt_add, Int32.toInt_sub, Int32.toInt_mul, Int32.toInt_neg, zbm, zbm', t0, t2, t64, t1, t3, t4, t5, t6, t7, t8, t9, t10] at c1 c4 c6 c8 c11 c13 c15 c17 c19 c21 c24 hid ⊢) <;> omega)) (cwV 1 hT (tbV ml_Primitives_122 im_Primitives_dropped se_Primitives_dropped in_Primitives co_Primitives_dropped) rfl rfl rfl v_Primitives_dropped ⟨Nat.le_of_ble_eq_true rfl, Nat.le_of_ble_eq_true rfl⟩) hK hE hP hD hS hA [0, 1] rfl rfl 0 rfl rfl rfl hl.1 rfl (Nat.le_of_ble_eq_true rfl) d_Primitives_shuffle_141 ⟨Nat.le_of_ble_eq_true rfl, Nat.le_of_ble_eq_true rfl⟩) hP hD hS hA [0, 1] [2] rfl rfl rfl (by decide) [1, 2, 0] rfl (fun u => rfl) (fun q26 H locs e26 k26 hP hD hS => ?_)
                        have hP : va_P D classes [(pp, .inr (6, [.ref dd, .ref rr, .ref kc, .ref mm, .ref oo, .ref tt, .ref ww])), (dd, .inr (1, [.ref da, .int q26.2])), (da, .inl (cI, 64, .inl df))] H := hP
                        have hD : va_D A [(pp, .inr (6, [.ref dd, .ref rr, .ref kc, .ref mm, .ref oo, .ref tt, .ref ww])), (dd, .inr (1, [.ref da, .int q26.2])), (da, .inl (cI, 64, .inl df))] := hD
                        have hF := hF.trans (bd_e e26)
                        exact W.iret (v := q26.1) hx hb hr (fun t ht hW => ⟨⟨_, _, rfl, ⟨hF.symm, k26⟩, ⟨by rw [ht]; exact hP, va_K.moved hW.alike hK, hD⟩⟩, hS.F ht⟩) hS.2.2 d_Primitives_shuffle_144
/-- the picture of ColonMachine$Primitives.flag -/
def F_Prim_flag (x1 : Int32) : Int32 := if x1 = 0 then 0 else (-1)
theorem F_Prim_flag_e (x1 : Int32) : F_Prim_flag x1 = if x1 = 0 then 0 else (-1) := rfl
set_option maxHeartbeats 4000000 in
set_option maxRecDepth 100000 in
theorem c_Prim_flag (l : Launch) (D : va_G) (cI cJ cZ cW cT : ClassId) (sz : Nat) (x1 : Int32)  : Met l y_Primitives_flag w_Primitives_flag ({ frames := 0, cells := 0, slots := 0, locals := 0 }) (va_Pc [.int x1] (zP D classes (TY cI cJ cZ cW cT) [] sz)) (va_Qi (fun (r : Int32) (_ : Unit) => r = F_Prim_flag x1 ∧ (True)) (fun _ => zB D classes (TY cI cJ cZ cW cT) (va_A [] sz) []) (va_A [] sz)) 0 0 (va_A [] sz) := by
  refine Met.ofW (cc := b_Primitives_flag) (maxL := 1) (ret := (some .int)) (by decide) rfl ?_
  intro p e s m args below meth c s₁ B hml hv
  obtain ⟨rfl, hsz, hP, hK, hD0, hE⟩ := hv
  have hx := B.exec
  have hb := B.bytes
  have hr := B.returns
  have hts := atoms_spec (ws := w_Primitives_flag) B.pre
  have hT : ∀ w ∈ TB, w.before _ s = true := fun w h => hts w (List.mem_cons_of_mem _ h)
  have hown : s.vm.findClass "ColonMachine$Primitives" = some m.cls := findClass_of_methodNamed B.named
  have hlocks := B.notSynchronized
  subst hsz
  have hD := hD0.self (sz := s.heap.size)
  generalize hAe : va_A [] s.heap.size = A at hD hE ⊢
  have hA : ∀ q : Nat, s.heap.size ≤ q → A q := fun q h => by rw [← hAe]; exact Or.inr h
  have hS : va_S A s.heap s.heap [] := va_S.rf
  have hl := lv_entry [.int x1] (n := 1) (Nat.le_of_ble_eq_true rfl)
  rw [lg_entry_eq]
  generalize (lg_sl [.int x1] ++ List.replicate (1 - (lg_sl [.int x1]).length) Slot.unset).toArray = ls at hl ⊢
  have hl : lv_has ls 1 [(0, .int x1)] := hl
  have hF := F_Prim_flag_e x1
  refine lv_iload_n hx hb d_Primitives_flag_0 rfl (lv_at hl 0 rfl) ?_
  refine lv_if_eq (tgt := 8) hx hb d_Primitives_flag_1 (by decide) (fun c1 => ?_) (fun c1 => ?_)
  · have hF := hF.trans (if_pos c1)
    refine lv_iconst (v := 0) hx hb d_Primitives_flag_8 (by decide) ?_
    exact W.iret (v := 0) hx hb hr (fun t ht hW => ⟨⟨_, (), rfl, ⟨hF.symm, trivial⟩, ⟨by rw [ht]; exact hP, va_K.moved hW.alike hK, hD⟩⟩, hS.F ht⟩) hS.2.2 d_Primitives_flag_9
  · have hF := hF.trans (if_neg c1)
    refine lv_iconst (v := (-1)) hx hb d_Primitives_flag_4 (by decide) ?_
    refine lv_goto (tgt := 9) hx hb d_Primitives_flag_5 (by decide) ?_
    exact W.iret (v := (-1)) hx hb hr (fun t ht hW => ⟨⟨_, (), rfl, ⟨hF.symm, trivial⟩, ⟨by rw [ht]; exact hP, va_K.moved hW.alike hK, hD⟩⟩, hS.F ht⟩) hS.2.2 d_Primitives_flag_9
/-- the picture of ColonMachine$Primitives.ofOne -/
def F_Prim_ofOne (x1 : Int32) (x2 : Int32) : Int32 := if x1 = 19 then (-x2) else (if x1 = 20 then (if 0 ≤ x2 then x2 else (-x2)) else (if x1 = 23 then (x2 + 1) else (if x1 = 24 then (x2 - 1) else (if x1 = 25 then (x2 <<< (1 &&& 31)) else (if x1 = 26 then (x2 >>> (1 &&& 31)) else (if x1 = 30 then (x2 ^^^ (-1)) else (if x1 = 38 then (if x2 = 0 then (bd (F_Prim_flag 1) (fun q12 => q12)) else (bd (F_Prim_flag 0) (fun q11 => q11))) else (if 0 ≤ x2 then (bd (F_Prim_flag 0) (fun q14 => q14)) else (bd (F_Prim_flag 1) (fun q15 => q15))))))))))
theorem F_Prim_ofOne_e (x1 : Int32) (x2 : Int32) : F_Prim_ofOne x1 x2 = if x1 = 19 then (-x2) else (if x1 = 20 then (if 0 ≤ x2 then x2 else (-x2)) else (if x1 = 23 then (x2 + 1) else (if x1 = 24 then (x2 - 1) else (if x1 = 25 then (x2 <<< (1 &&& 31)) else (if x1 = 26 then (x2 >>> (1 &&& 31)) else (if x1 = 30 then (x2 ^^^ (-1)) else (if x1 = 38 then (if x2 = 0 then (bd (F_Prim_flag 1) (fun q12 => q12)) else (bd (F_Prim_flag 0) (fun q11 => q11))) else (if 0 ≤ x2 then (bd (F_Prim_flag 0) (fun q14 => q14)) else (bd (F_Prim_flag 1) (fun q15 => q15)))))))))) := rfl
set_option maxHeartbeats 4000000 in
set_option maxRecDepth 100000 in
theorem c_Prim_ofOne (l : Launch) (D : va_G) (cI cJ cZ cW cT : ClassId) (sz : Nat) (x1 : Int32) (x2 : Int32)  : Met l y_Primitives_ofOne w_Primitives_ofOne ({ frames := 1, cells := 0, slots := 0, locals := 20 }) (va_Pc [.int x1, .int x2] (zP D classes (TY cI cJ cZ cW cT) [] sz)) (va_Qi (fun (r : Int32) (_ : Unit) => r = F_Prim_ofOne x1 x2 ∧ (True)) (fun _ => zB D classes (TY cI cJ cZ cW cT) (va_A [] sz) []) (va_A [] sz)) 0 0 (va_A [] sz) := by
  refine Met.ofW (cc := b_Primitives_ofOne) (maxL := 2) (ret := (some .int)) (by decide) rfl ?_
  intro p e s m args below meth c s₁ B hml hv
  obtain ⟨rfl, hsz, hP, hK, hD0, hE⟩ := hv
  have hx := B.exec
  have hb := B.bytes
  have hr := B.returns
  have hts := atoms_spec (ws := w_Primitives_ofOne) B.pre
  have hT : ∀ w ∈ TB, w.before _ s = true := fun w h => hts w (List.mem_cons_of_mem _ h)
  have hown : s.vm.findClass "ColonMachine$Primitives" = some m.cls := findClass_of_methodNamed B.named
  have hlocks := B.notSynchronized
  subst hsz
  have hD := hD0.self (sz := s.heap.size)
  generalize hAe : va_A [] s.heap.size = A at hD hE ⊢
  have hA : ∀ q : Nat, s.heap.size ≤ q → A q := fun q h => by rw [← hAe]; exact Or.inr h
  have hS : va_S A s.heap s.heap [] := va_S.rf
  have hl := lv_entry [.int x1, .int x2] (n := 2) (Nat.le_of_ble_eq_true rfl)
  rw [lg_entry_eq]
  generalize (lg_sl [.int x1, .int x2] ++ List.replicate (2 - (lg_sl [.int x1, .int x2]).length) Slot.unset).toArray = ls at hl ⊢
  have hl : lv_has ls 2 [(0, .int x1), (1, .int x2)] := hl
  have hF := F_Prim_ofOne_e x1 x2
  refine lv_iload_n hx hb d_Primitives_ofOne_0 rfl (lv_at hl 0 rfl) ?_
  by_cases c1 : x1 = 19
  · have hF := hF.trans (if_pos c1)
    refine lv_tableIn (off := 95) (tgt := 96) hx hb d_Primitives_ofOne_1 (by rw [c1]; decide) (by rw [c1]; decide) (by rw [c1]; decide) (by decide) ?_
    refine lv_iload_n hx hb d_Primitives_ofOne_96 rfl (lv_at hl 1 rfl) ?_
    refine lv_ineg hx hb d_Primitives_ofOne_97 ?_
    exact W.iret (v := -x2) hx hb hr (fun t ht hW => ⟨⟨_, (), rfl, ⟨hF.symm, trivial⟩, ⟨by rw [ht]; exact hP, va_K.moved hW.alike hK, hD⟩⟩, hS.F ht⟩) hS.2.2 d_Primitives_ofOne_98
  · have hF := hF.trans (if_neg c1)
    by_cases c2 : x1 = 20
    · have hF := hF.trans (if_pos c2)
      refine lv_tableIn (off := 98) (tgt := 99) hx hb d_Primitives_ofOne_1 (by rw [c2]; decide) (by rw [c2]; decide) (by rw [c2]; decide) (by decide) ?_
      refine lv_iload_n hx hb d_Primitives_ofOne_99 rfl (lv_at hl 1 rfl) ?_
      refine lv_if_ge (tgt := 108) hx hb d_Primitives_ofOne_100 (by decide) (fun c3 => ?_) (fun c3 => ?_)
      · have hF := hF.trans (if_pos c3)
        refine lv_iload_n hx hb d_Primitives_ofOne_108 rfl (lv_at hl 1 rfl) ?_
        exact W.iret (v := x2) hx hb hr (fun t ht hW => ⟨⟨_, (), rfl, ⟨hF.symm, trivial⟩, ⟨by rw [ht]; exact hP, va_K.moved hW.alike hK, hD⟩⟩, hS.F ht⟩) hS.2.2 d_Primitives_ofOne_109
      · have hF := hF.trans (if_neg c3)
        refine lv_iload_n hx hb d_Primitives_ofOne_103 rfl (lv_at hl 1 rfl) ?_
        refine lv_ineg hx hb d_Primitives_ofOne_104 ?_
        refine lv_goto (tgt := 109) hx hb d_Primitives_ofOne_105 (by decide) ?_
        exact W.iret (v := -x2) hx hb hr (fun t ht hW => ⟨⟨_, (), rfl, ⟨hF.symm, trivial⟩, ⟨by rw [ht]; exact hP, va_K.moved hW.alike hK, hD⟩⟩, hS.F ht⟩) hS.2.2 d_Primitives_ofOne_109
    · have hF := hF.trans (if_neg c2)
      by_cases c4 : x1 = 23
      · have hF := hF.trans (if_pos c4)
        refine lv_tableIn (off := 109) (tgt := 110) hx hb d_Primitives_ofOne_1 (by rw [c4]; decide) (by rw [c4]; decide) (by rw [c4]; decide) (by decide) ?_
        refine lv_iload_n hx hb d_Primitives_ofOne_110 rfl (lv_at hl 1 rfl) ?_
        refine lv_iconst (v := 1) hx hb d_Primitives_ofOne_111 (by decide) ?_
        refine lv_iadd hx hb d_Primitives_ofOne_112 ?_
        exact W.iret (v := x2 + 1) hx hb hr (fun t ht hW => ⟨⟨_, (), rfl, ⟨hF.symm, trivial⟩, ⟨by rw [ht]; exact hP, va_K.moved hW.alike hK, hD⟩⟩, hS.F ht⟩) hS.2.2 d_Primitives_ofOne_113
      · have hF := hF.trans (if_neg c4)
        by_cases c5 : x1 = 24
        · have hF := hF.trans (if_pos c5)
          refine lv_tableIn (off := 113) (tgt := 114) hx hb d_Primitives_ofOne_1 (by rw [c5]; decide) (by rw [c5]; decide) (by rw [c5]; decide) (by decide) ?_
          refine lv_iload_n hx hb d_Primitives_ofOne_114 rfl (lv_at hl 1 rfl) ?_
          refine lv_iconst (v := 1) hx hb d_Primitives_ofOne_115 (by decide) ?_
          refine lv_isub hx hb d_Primitives_ofOne_116 ?_
          exact W.iret (v := x2 - 1) hx hb hr (fun t ht hW => ⟨⟨_, (), rfl, ⟨hF.symm, trivial⟩, ⟨by rw [ht]; exact hP, va_K.moved hW.alike hK, hD⟩⟩, hS.F ht⟩) hS.2.2 d_Primitives_ofOne_117
        · have hF := hF.trans (if_neg c5)
          by_cases c6 : x1 = 25
          · have hF := hF.trans (if_pos c6)
            refine lv_tableIn (off := 117) (tgt := 118) hx hb d_Primitives_ofOne_1 (by rw [c6]; decide) (by rw [c6]; decide) (by rw [c6]; decide) (by decide) ?_
            refine lv_iload_n hx hb d_Primitives_ofOne_118 rfl (lv_at hl 1 rfl) ?_
            refine lv_iconst (v := 1) hx hb d_Primitives_ofOne_119 (by decide) ?_
            refine lv_ishl hx hb d_Primitives_ofOne_120 ?_
            exact W.iret (v := x2 <<< (1 &&& 31)) hx hb hr (fun t ht hW => ⟨⟨_, (), rfl, ⟨hF.symm, trivial⟩, ⟨by rw [ht]; exact hP, va_K.moved hW.alike hK, hD⟩⟩, hS.F ht⟩) hS.2.2 d_Primitives_ofOne_121
          · have hF := hF.trans (if_neg c6)
            by_cases c7 : x1 = 26
            · have hF := hF.trans (if_pos c7)
              refine lv_tableIn (off := 121) (tgt := 122) hx hb d_Primitives_ofOne_1 (by rw [c7]; decide) (by rw [c7]; decide) (by rw [c7]; decide) (by decide) ?_
              refine lv_iload_n hx hb d_Primitives_ofOne_122 rfl (lv_at hl 1 rfl) ?_
              refine lv_iconst (v := 1) hx hb d_Primitives_ofOne_123 (by decide) ?_
              refine lv_ishr hx hb d_Primitives_ofOne_124 ?_
              exact W.iret (v := x2 >>> (1 &&& 31)) hx hb hr (fun t ht hW => ⟨⟨_, (), rfl, ⟨hF.symm, trivial⟩, ⟨by rw [ht]; exact hP, va_K.moved hW.alike hK, hD⟩⟩, hS.F ht⟩) hS.2.2 d_Primitives_ofOne_125
            · have hF := hF.trans (if_neg c7)
              by_cases c8 : x1 = 30
              · have hF := hF.trans (if_pos c8)
                refine lv_tableIn (off := 125) (tgt := 126) hx hb d_Primitives_ofOne_1 (by rw [c8]; decide) (by rw [c8]; decide) (by rw [c8]; decide) (by decide) ?_
                refine lv_iload_n hx hb d_Primitives_ofOne_126 rfl (lv_at hl 1 rfl) ?_
                refine lv_iconst (v := (-1)) hx hb d_Primitives_ofOne_127 (by decide) ?_
                refine lv_ixor hx hb d_Primitives_ofOne_128 ?_
                exact W.iret (v := x2 ^^^ (-1)) hx hb hr (fun t ht hW => ⟨⟨_, (), rfl, ⟨hF.symm, trivial⟩, ⟨by rw [ht]; exact hP, va_K.moved hW.alike hK, hD⟩⟩, hS.F ht⟩) hS.2.2 d_Primitives_ofOne_129
              · have hF := hF.trans (if_neg c8)
                by_cases c9 : x1 = 38
                · have hF := hF.trans (if_pos c9)
                  refine lv_tableIn (off := 129) (tgt := 130) hx hb d_Primitives_ofOne_1 (by rw [c9]; decide) (by rw [c9]; decide) (by rw [c9]; decide) (by decide) ?_
                  refine lv_iload_n hx hb d_Primitives_ofOne_130 rfl (lv_at hl 1 rfl) ?_
                  refine lv_if_ne (tgt := 138) hx hb d_Primitives_ofOne_131 (by decide) (fun c10 => ?_) (fun c10 => ?_)
                  · have hF := hF.trans (if_neg c10)
                    refine lv_iconst (v := 0) hx hb d_Primitives_ofOne_138 (by decide) ?_
                    refine kN_pi (wr := []) (zS (wc := []) (As := [.int 0]) (rest := []) (st0 := [.int 0]) ⟨hx, hb, hml, hown, hT⟩ (c_Prim_flag l D cI cJ cZ cW cT s.heap.size 0) (va_cwS 1 hT (tbS ml_Primitives_175 sm_Primitives_flag in_Primitives co_Primitives_flag) rfl rfl rfl vs_Primitives_flag ⟨Nat.le_of_ble_eq_true rfl, Nat.le_of_ble_eq_true rfl⟩) hK hE hP hD hS hA [] rfl rfl rfl hl.1 rfl (Nat.le_of_ble_eq_true rfl) d_Primitives_ofOne_139 ⟨Nat.le_of_ble_eq_true rfl, Nat.le_of_ble_eq_true rfl⟩) hP hD hS hA [] [] rfl rfl rfl (by decide) [] rfl rfl (fun q11 H locs e11 k11 hP hD hS => ?_)
                    have hP : va_P D classes [] H := hP
                    have hD : va_D A [] := hD
                    have hF := hF.trans (bd_e e11)
                    exact W.iret (v := q11) hx hb hr (fun t ht hW => ⟨⟨_, (), rfl, ⟨hF.symm, trivial⟩, ⟨by rw [ht]; exact hP, va_K.moved hW.alike hK, hD⟩⟩, hS.F ht⟩) hS.2.2 d_Primitives_ofOne_142
                  · have hF := hF.trans (if_pos c10)
                    refine lv_iconst (v := 1) hx hb d_Primitives_ofOne_134 (by decide) ?_
                    refine lv_goto (tgt := 139) hx hb d_Primitives_ofOne_135 (by decide) ?_
                    refine kN_pi (wr := []) (zS (wc := []) (As := [.int 1]) (rest := []) (st0 := [.int 1]) ⟨hx, hb, hml, hown, hT⟩ (c_Prim_flag l D cI cJ cZ cW cT s.heap.size 1) (va_cwS 1 hT (tbS ml_Primitives_175 sm_Primitives_flag in_Primitives co_Primitives_flag) rfl rfl rfl vs_Primitives_flag ⟨Nat.le_of_ble_eq_true rfl, Nat.le_of_ble_eq_true rfl⟩) hK hE hP hD hS hA [] rfl rfl rfl hl.1 rfl (Nat.le_of_ble_eq_true rfl) d_Primitives_ofOne_139 ⟨Nat.le_of_ble_eq_true rfl, Nat.le_of_ble_eq_true rfl⟩) hP hD hS hA [] [] rfl rfl rfl (by decide) [] rfl rfl (fun q12 H locs e12 k12 hP hD hS => ?_)
                    have hP : va_P D classes [] H := hP
                    have hD : va_D A [] := hD
                    have hF := hF.trans (bd_e e12)
                    exact W.iret (v := q12) hx hb hr (fun t ht hW => ⟨⟨_, (), rfl, ⟨hF.symm, trivial⟩, ⟨by rw [ht]; exact hP, va_K.moved hW.alike hK, hD⟩⟩, hS.F ht⟩) hS.2.2 d_Primitives_ofOne_142
                · have hF := hF.trans (if_neg c9)
                  refine lv_tableD (tgt := 143) hx hb [19, 20, 23, 24, 25, 26, 30, 38] d_Primitives_ofOne_1 rfl (by decide) (List.forall_mem_cons.2 ⟨lv_neT c1 rfl, List.forall_mem_cons.2 ⟨lv_neT c2 rfl, List.forall_mem_cons.2 ⟨lv_neT c4 rfl, List.forall_mem_cons.2 ⟨lv_neT c5 rfl, List.forall_mem_cons.2 ⟨lv_neT c6 rfl, List.forall_mem_cons.2 ⟨lv_neT c7 rfl, List.forall_mem_cons.2 ⟨lv_neT c8 rfl, List.forall_mem_cons.2 ⟨lv_neT c9 rfl, fun _ h => absurd h List.not_mem_nil⟩⟩⟩⟩⟩⟩⟩⟩) (by decide) ?_
                  refine lv_iload_n hx hb d_Primitives_ofOne_143 rfl (lv_at hl 1 rfl) ?_
                  refine lv_if_ge (tgt := 151) hx hb d_Primitives_ofOne_144 (by decide) (fun c13 => ?_) (fun c13 => ?_)
                  · have hF := hF.trans (if_pos c13)
                    refine lv_iconst (v := 0) hx hb d_Primitives_ofOne_151 (by decide) ?_
                    refine kN_pi (wr := []) (zS (wc := []) (As := [.int 0]) (rest := []) (st0 := [.int 0]) ⟨hx, hb, hml, hown, hT⟩ (c_Prim_flag l D cI cJ cZ cW cT s.heap.size 0) (va_cwS 1 hT (tbS ml_Primitives_175 sm_Primitives_flag in_Primitives co_Primitives_flag) rfl rfl rfl vs_Primitives_flag ⟨Nat.le_of_ble_eq_true rfl, Nat.le_of_ble_eq_true rfl⟩) hK hE hP hD hS hA [] rfl rfl rfl hl.1 rfl (Nat.le_of_ble_eq_true rfl) d_Primitives_ofOne_152 ⟨Nat.le_of_ble_eq_true rfl, Nat.le_of_ble_eq_true rfl⟩) hP hD hS hA [] [] rfl rfl rfl (by decide) [] rfl rfl (fun q14 H locs e14 k14 hP hD hS => ?_)
                    have hP : va_P D classes [] H := hP
                    have hD : va_D A [] := hD
                    have hF := hF.trans (bd_e e14)
                    exact W.iret (v := q14) hx hb hr (fun t ht hW => ⟨⟨_, (), rfl, ⟨hF.symm, trivial⟩, ⟨by rw [ht]; exact hP, va_K.moved hW.alike hK, hD⟩⟩, hS.F ht⟩) hS.2.2 d_Primitives_ofOne_155
                  · have hF := hF.trans (if_neg c13)
                    refine lv_iconst (v := 1) hx hb d_Primitives_ofOne_147 (by decide) ?_
                    refine lv_goto (tgt := 152) hx hb d_Primitives_ofOne_148 (by decide) ?_
                    refine kN_pi (wr := []) (zS (wc := []) (As := [.int 1]) (rest := []) (st0 := [.int 1]) ⟨hx, hb, hml, hown, hT⟩ (c_Prim_flag l D cI cJ cZ cW cT s.heap.size 1) (va_cwS 1 hT (tbS ml_Primitives_175 sm_Primitives_flag in_Primitives co_Primitives_flag) rfl rfl rfl vs_Primitives_flag ⟨Nat.le_of_ble_eq_true rfl, Nat.le_of_ble_eq_true rfl⟩) hK hE hP hD hS hA [] rfl rfl rfl hl.1 rfl (Nat.le_of_ble_eq_true rfl) d_Primitives_ofOne_152 ⟨Nat.le_of_ble_eq_true rfl, Nat.le_of_ble_eq_true rfl⟩) hP hD hS hA [] [] rfl rfl rfl (by decide) [] rfl rfl (fun q15 H locs e15 k15 hP hD hS => ?_)
                    have hP : va_P D classes [] H := hP
                    have hD : va_D A [] := hD
                    have hF := hF.trans (bd_e e15)
                    exact W.iret (v := q15) hx hb hr (fun t ht hW => ⟨⟨_, (), rfl, ⟨hF.symm, trivial⟩, ⟨by rw [ht]; exact hP, va_K.moved hW.alike hK, hD⟩⟩, hS.F ht⟩) hS.2.2 d_Primitives_ofOne_155
/-- the picture of ColonMachine$Primitives.ofTwo -/
def F_Prim_ofTwo (x1 : Int32) (x2 : Int32) (x3 : Int32) : Int32 := if x1 = 12 then (x2 + x3) else (if x1 = 13 then (x2 - x3) else (if x1 = 14 then (x2 * x3) else (if x1 = 21 then (if x3 ≤ x2 then x3 else x2) else (if x1 = 22 then (if x2 ≤ x3 then x3 else x2) else (if x1 = 27 then (x2 &&& x3) else (if x1 = 28 then (x2 ||| x3) else (if x1 = 29 then (x2 ^^^ x3) else (if x1 = 31 then (if x3 < 0 then 0 else (if x3 ≤ 31 then (x2 <<< (x3 &&& 31)) else 0)) else (if x3 < 0 then 0 else (if x3 ≤ 31 then ((x2.toUInt32 >>> (x3.toUInt32 &&& Int32.toUInt32 31)).toInt32) else 0))))))))))
theorem F_Prim_ofTwo_e (x1 : Int32) (x2 : Int32) (x3 : Int32) : F_Prim_ofTwo x1 x2 x3 = if x1 = 12 then (x2 + x3) else (if x1 = 13 then (x2 - x3) else (if x1 = 14 then (x2 * x3) else (if x1 = 21 then (if x3 ≤ x2 then x3 else x2) else (if x1 = 22 then (if x2 ≤ x3 then x3 else x2) else (if x1 = 27 then (x2 &&& x3) else (if x1 = 28 then (x2 ||| x3) else (if x1 = 29 then (x2 ^^^ x3) else (if x1 = 31 then (if x3 < 0 then 0 else (if x3 ≤ 31 then (x2 <<< (x3 &&& 31)) else 0)) else (if x3 < 0 then 0 else (if x3 ≤ 31 then ((x2.toUInt32 >>> (x3.toUInt32 &&& Int32.toUInt32 31)).toInt32) else 0)))))))))) := rfl
set_option maxHeartbeats 4000000 in
set_option maxRecDepth 100000 in
theorem c_Prim_ofTwo (l : Launch) (D : va_G) (cI cJ cZ cW cT : ClassId) (sz : Nat) (x1 : Int32) (x2 : Int32) (x3 : Int32)  : Met l y_Primitives_ofTwo w_Primitives_ofTwo ({ frames := 0, cells := 0, slots := 0, locals := 0 }) (va_Pc [.int x1, .int x2, .int x3] (zP D classes (TY cI cJ cZ cW cT) [] sz)) (va_Qi (fun (r : Int32) (_ : Unit) => r = F_Prim_ofTwo x1 x2 x3 ∧ (True)) (fun _ => zB D classes (TY cI cJ cZ cW cT) (va_A [] sz) []) (va_A [] sz)) 0 0 (va_A [] sz) := by
  refine Met.ofW (cc := b_Primitives_ofTwo) (maxL := 3) (ret := (some .int)) (by decide) rfl ?_
  intro p e s m args below meth c s₁ B hml hv
  obtain ⟨rfl, hsz, hP, hK, hD0, hE⟩ := hv
  have hx := B.exec
  have hb := B.bytes
  have hr := B.returns
  have hts := atoms_spec (ws := w_Primitives_ofTwo) B.pre
  have hT : ∀ w ∈ TB, w.before _ s = true := fun w h => hts w (List.mem_cons_of_mem _ h)
  have hown : s.vm.findClass "ColonMachine$Primitives" = some m.cls := findClass_of_methodNamed B.named
  have hlocks := B.notSynchronized
  subst hsz
  have hD := hD0.self (sz := s.heap.size)
  generalize hAe : va_A [] s.heap.size = A at hD hE ⊢
  have hA : ∀ q : Nat, s.heap.size ≤ q → A q := fun q h => by rw [← hAe]; exact Or.inr h
  have hS : va_S A s.heap s.heap [] := va_S.rf
  have hl := lv_entry [.int x1, .int x2, .int x3] (n := 3) (Nat.le_of_ble_eq_true rfl)
  rw [lg_entry_eq]
  generalize (lg_sl [.int x1, .int x2, .int x3] ++ List.replicate (3 - (lg_sl [.int x1, .int x2, .int x3]).length) Slot.unset).toArray = ls at hl ⊢
  have hl : lv_has ls 3 [(0, .int x1), (1, .int x2), (2, .int x3)] := hl
  have hF := F_Prim_ofTwo_e x1 x2 x3
  refine lv_iload_n hx hb d_Primitives_ofTwo_0 rfl (lv_at hl 0 rfl) ?_
  by_cases c1 : x1 = 12
  · have hF := hF.trans (if_pos c1)
    refine lv_tableIn (off := 95) (tgt := 96) hx hb d_Primitives_ofTwo_1 (by rw [c1]; decide) (by rw [c1]; decide) (by rw [c1]; decide) (by decide) ?_
    refine lv_iload_n hx hb d_Primitives_ofTwo_96 rfl (lv_at hl 1 rfl) ?_
    refine lv_iload_n hx hb d_Primitives_ofTwo_97 rfl (lv_at hl 2 rfl) ?_
    refine lv_iadd hx hb d_Primitives_ofTwo_98 ?_
    exact W.iret (v := x2 + x3) hx hb hr (fun t ht hW => ⟨⟨_, (), rfl, ⟨hF.symm, trivial⟩, ⟨by rw [ht]; exact hP, va_K.moved hW.alike hK, hD⟩⟩, hS.F ht⟩) hS.2.2 d_Primitives_ofTwo_99
  · have hF := hF.trans (if_neg c1)
    by_cases c2 : x1 = 13
    · have hF := hF.trans (if_pos c2)
      refine lv_tableIn (off := 99) (tgt := 100) hx hb d_Primitives_ofTwo_1 (by rw [c2]; decide) (by rw [c2]; decide) (by rw [c2]; decide) (by decide) ?_
      refine lv_iload_n hx hb d_Primitives_ofTwo_100 rfl (lv_at hl 1 rfl) ?_
      refine lv_iload_n hx hb d_Primitives_ofTwo_101 rfl (lv_at hl 2 rfl) ?_
      refine lv_isub hx hb d_Primitives_ofTwo_102 ?_
      exact W.iret (v := x2 - x3) hx hb hr (fun t ht hW => ⟨⟨_, (), rfl, ⟨hF.symm, trivial⟩, ⟨by rw [ht]; exact hP, va_K.moved hW.alike hK, hD⟩⟩, hS.F ht⟩) hS.2.2 d_Primitives_ofTwo_103
    · have hF := hF.trans (if_neg c2)
      by_cases c3 : x1 = 14
      · have hF := hF.trans (if_pos c3)
        refine lv_tableIn (off := 103) (tgt := 104) hx hb d_Primitives_ofTwo_1 (by rw [c3]; decide) (by rw [c3]; decide) (by rw [c3]; decide) (by decide) ?_
        refine lv_iload_n hx hb d_Primitives_ofTwo_104 rfl (lv_at hl 1 rfl) ?_
        refine lv_iload_n hx hb d_Primitives_ofTwo_105 rfl (lv_at hl 2 rfl) ?_
        refine lv_imul hx hb d_Primitives_ofTwo_106 ?_
        exact W.iret (v := x2 * x3) hx hb hr (fun t ht hW => ⟨⟨_, (), rfl, ⟨hF.symm, trivial⟩, ⟨by rw [ht]; exact hP, va_K.moved hW.alike hK, hD⟩⟩, hS.F ht⟩) hS.2.2 d_Primitives_ofTwo_107
      · have hF := hF.trans (if_neg c3)
        by_cases c4 : x1 = 21
        · have hF := hF.trans (if_pos c4)
          refine lv_tableIn (off := 107) (tgt := 108) hx hb d_Primitives_ofTwo_1 (by rw [c4]; decide) (by rw [c4]; decide) (by rw [c4]; decide) (by decide) ?_
          refine lv_iload_n hx hb d_Primitives_ofTwo_108 rfl (lv_at hl 1 rfl) ?_
          refine lv_iload_n hx hb d_Primitives_ofTwo_109 rfl (lv_at hl 2 rfl) ?_
          refine lv_icmp_ge (tgt := 117) hx hb d_Primitives_ofTwo_110 (by decide) (fun c5 => ?_) (fun c5 => ?_)
          · have hF := hF.trans (if_pos c5)
            refine lv_iload_n hx hb d_Primitives_ofTwo_117 rfl (lv_at hl 2 rfl) ?_
            exact W.iret (v := x3) hx hb hr (fun t ht hW => ⟨⟨_, (), rfl, ⟨hF.symm, trivial⟩, ⟨by rw [ht]; exact hP, va_K.moved hW.alike hK, hD⟩⟩, hS.F ht⟩) hS.2.2 d_Primitives_ofTwo_118
          · have hF := hF.trans (if_neg c5)
            refine lv_iload_n hx hb d_Primitives_ofTwo_113 rfl (lv_at hl 1 rfl) ?_
            refine lv_goto (tgt := 118) hx hb d_Primitives_ofTwo_114 (by decide) ?_
            exact W.iret (v := x2) hx hb hr (fun t ht hW => ⟨⟨_, (), rfl, ⟨hF.symm, trivial⟩, ⟨by rw [ht]; exact hP, va_K.moved hW.alike hK, hD⟩⟩, hS.F ht⟩) hS.2.2 d_Primitives_ofTwo_118
        · have hF := hF.trans (if_neg c4)
          by_cases c6 : x1 = 22
          · have hF := hF.trans (if_pos c6)
            refine lv_tableIn (off := 118) (tgt := 119) hx hb d_Primitives_ofTwo_1 (by rw [c6]; decide) (by rw [c6]; decide) (by rw [c6]; decide) (by decide) ?_
            refine lv_iload_n hx hb d_Primitives_ofTwo_119 rfl (lv_at hl 1 rfl) ?_
            refine lv_iload_n hx hb d_Primitives_ofTwo_120 rfl (lv_at hl 2 rfl) ?_
            refine lv_icmp_le (tgt := 128) hx hb d_Primitives_ofTwo_121 (by decide) (fun c7 => ?_) (fun c7 => ?_)
            · have hF := hF.trans (if_pos c7)
              refine lv_iload_n hx hb d_Primitives_ofTwo_128 rfl (lv_at hl 2 rfl) ?_
              exact W.iret (v := x3) hx hb hr (fun t ht hW => ⟨⟨_, (), rfl, ⟨hF.symm, trivial⟩, ⟨by rw [ht]; exact hP, va_K.moved hW.alike hK, hD⟩⟩, hS.F ht⟩) hS.2.2 d_Primitives_ofTwo_129
            · have hF := hF.trans (if_neg c7)
              refine lv_iload_n hx hb d_Primitives_ofTwo_124 rfl (lv_at hl 1 rfl) ?_
              refine lv_goto (tgt := 129) hx hb d_Primitives_ofTwo_125 (by decide) ?_
              exact W.iret (v := x2) hx hb hr (fun t ht hW => ⟨⟨_, (), rfl, ⟨hF.symm, trivial⟩, ⟨by rw [ht]; exact hP, va_K.moved hW.alike hK, hD⟩⟩, hS.F ht⟩) hS.2.2 d_Primitives_ofTwo_129
          · have hF := hF.trans (if_neg c6)
            by_cases c8 : x1 = 27
            · have hF := hF.trans (if_pos c8)
              refine lv_tableIn (off := 129) (tgt := 130) hx hb d_Primitives_ofTwo_1 (by rw [c8]; decide) (by rw [c8]; decide) (by rw [c8]; decide) (by decide) ?_
              refine lv_iload_n hx hb d_Primitives_ofTwo_130 rfl (lv_at hl 1 rfl) ?_
              refine lv_iload_n hx hb d_Primitives_ofTwo_131 rfl (lv_at hl 2 rfl) ?_
              refine lv_iand hx hb d_Primitives_ofTwo_132 ?_
              exact W.iret (v := x2 &&& x3) hx hb hr (fun t ht hW => ⟨⟨_, (), rfl, ⟨hF.symm, trivial⟩, ⟨by rw [ht]; exact hP, va_K.moved hW.alike hK, hD⟩⟩, hS.F ht⟩) hS.2.2 d_Primitives_ofTwo_133
            · have hF := hF.trans (if_neg c8)
              by_cases c9 : x1 = 28
              · have hF := hF.trans (if_pos c9)
                refine lv_tableIn (off := 133) (tgt := 134) hx hb d_Primitives_ofTwo_1 (by rw [c9]; decide) (by rw [c9]; decide) (by rw [c9]; decide) (by decide) ?_
                refine lv_iload_n hx hb d_Primitives_ofTwo_134 rfl (lv_at hl 1 rfl) ?_
                refine lv_iload_n hx hb d_Primitives_ofTwo_135 rfl (lv_at hl 2 rfl) ?_
                refine lv_ior hx hb d_Primitives_ofTwo_136 ?_
                exact W.iret (v := x2 ||| x3) hx hb hr (fun t ht hW => ⟨⟨_, (), rfl, ⟨hF.symm, trivial⟩, ⟨by rw [ht]; exact hP, va_K.moved hW.alike hK, hD⟩⟩, hS.F ht⟩) hS.2.2 d_Primitives_ofTwo_137
              · have hF := hF.trans (if_neg c9)
                by_cases c10 : x1 = 29
                · have hF := hF.trans (if_pos c10)
                  refine lv_tableIn (off := 137) (tgt := 138) hx hb d_Primitives_ofTwo_1 (by rw [c10]; decide) (by rw [c10]; decide) (by rw [c10]; decide) (by decide) ?_
                  refine lv_iload_n hx hb d_Primitives_ofTwo_138 rfl (lv_at hl 1 rfl) ?_
                  refine lv_iload_n hx hb d_Primitives_ofTwo_139 rfl (lv_at hl 2 rfl) ?_
                  refine lv_ixor hx hb d_Primitives_ofTwo_140 ?_
                  exact W.iret (v := x2 ^^^ x3) hx hb hr (fun t ht hW => ⟨⟨_, (), rfl, ⟨hF.symm, trivial⟩, ⟨by rw [ht]; exact hP, va_K.moved hW.alike hK, hD⟩⟩, hS.F ht⟩) hS.2.2 d_Primitives_ofTwo_141
                · have hF := hF.trans (if_neg c10)
                  by_cases c11 : x1 = 31
                  · have hF := hF.trans (if_pos c11)
                    refine lv_tableIn (off := 141) (tgt := 142) hx hb d_Primitives_ofTwo_1 (by rw [c11]; decide) (by rw [c11]; decide) (by rw [c11]; decide) (by decide) ?_
                    refine lv_iload_n hx hb d_Primitives_ofTwo_142 rfl (lv_at hl 2 rfl) ?_
                    refine lv_if_lt (tgt := 152) hx hb d_Primitives_ofTwo_143 (by decide) (fun c12 => ?_) (fun c12 => ?_)
                    · have hF := hF.trans (if_pos c12)
                      refine lv_iconst (v := 0) hx hb d_Primitives_ofTwo_152 (by decide) ?_
                      refine lv_goto (tgt := 159) hx hb d_Primitives_ofTwo_153 (by decide) ?_
                      exact W.iret (v := 0) hx hb hr (fun t ht hW => ⟨⟨_, (), rfl, ⟨hF.symm, trivial⟩, ⟨by rw [ht]; exact hP, va_K.moved hW.alike hK, hD⟩⟩, hS.F ht⟩) hS.2.2 d_Primitives_ofTwo_159
                    · have hF := hF.trans (if_neg c12)
                      refine lv_iload_n hx hb d_Primitives_ofTwo_146 rfl (lv_at hl 2 rfl) ?_
                      refine lv_bipush (v := 31) hx hb d_Primitives_ofTwo_147 (by decide) ?_
                      refine lv_icmp_le (tgt := 156) hx hb d_Primitives_ofTwo_149 (by decide) (fun c13 => ?_) (fun c13 => ?_)
                      · have hF := hF.trans (if_pos c13)
                        refine lv_iload_n hx hb d_Primitives_ofTwo_156 rfl (lv_at hl 1 rfl) ?_
                        refine lv_iload_n hx hb d_Primitives_ofTwo_157 rfl (lv_at hl 2 rfl) ?_
                        refine lv_ishl hx hb d_Primitives_ofTwo_158 ?_
                        exact W.iret (v := x2 <<< (x3 &&& 31)) hx hb hr (fun t ht hW => ⟨⟨_, (), rfl, ⟨hF.symm, trivial⟩, ⟨by rw [ht]; exact hP, va_K.moved hW.alike hK, hD⟩⟩, hS.F ht⟩) hS.2.2 d_Primitives_ofTwo_159
                      · have hF := hF.trans (if_neg c13)
                        refine lv_iconst (v := 0) hx hb d_Primitives_ofTwo_152 (by decide) ?_
                        refine lv_goto (tgt := 159) hx hb d_Primitives_ofTwo_153 (by decide) ?_
                        exact W.iret (v := 0) hx hb hr (fun t ht hW => ⟨⟨_, (), rfl, ⟨hF.symm, trivial⟩, ⟨by rw [ht]; exact hP, va_K.moved hW.alike hK, hD⟩⟩, hS.F ht⟩) hS.2.2 d_Primitives_ofTwo_159
                  · have hF := hF.trans (if_neg c11)
                    refine lv_tableD (tgt := 160) hx hb [12, 13, 14, 21, 22, 27, 28, 29, 31] d_Primitives_ofTwo_1 rfl (by decide) (List.forall_mem_cons.2 ⟨lv_neT c1 rfl, List.forall_mem_cons.2 ⟨lv_neT c2 rfl, List.forall_mem_cons.2 ⟨lv_neT c3 rfl, List.forall_mem_cons.2 ⟨lv_neT c4 rfl, List.forall_mem_cons.2 ⟨lv_neT c6 rfl, List.forall_mem_cons.2 ⟨lv_neT c8 rfl, List.forall_mem_cons.2 ⟨lv_neT c9 rfl, List.forall_mem_cons.2 ⟨lv_neT c10 rfl, List.forall_mem_cons.2 ⟨lv_neT c11 rfl, fun _ h => absurd h List.not_mem_nil⟩⟩⟩⟩⟩⟩⟩⟩⟩) (by decide) ?_
                    refine lv_iload_n hx hb d_Primitives_ofTwo_160 rfl (lv_at hl 2 rfl) ?_
                    refine lv_if_lt (tgt := 170) hx hb d_Primitives_ofTwo_161 (by decide) (fun c14 => ?_) (fun c14 => ?_)
                    · have hF := hF.trans (if_pos c14)
                      refine lv_iconst (v := 0) hx hb d_Primitives_ofTwo_170 (by decide) ?_
                      refine lv_goto (tgt := 177) hx hb d_Primitives_ofTwo_171 (by decide) ?_
                      exact W.iret (v := 0) hx hb hr (fun t ht hW => ⟨⟨_, (), rfl, ⟨hF.symm, trivial⟩, ⟨by rw [ht]; exact hP, va_K.moved hW.alike hK, hD⟩⟩, hS.F ht⟩) hS.2.2 d_Primitives_ofTwo_177
                    · have hF := hF.trans (if_neg c14)
                      refine lv_iload_n hx hb d_Primitives_ofTwo_164 rfl (lv_at hl 2 rfl) ?_
                      refine lv_bipush (v := 31) hx hb d_Primitives_ofTwo_165 (by decide) ?_
                      refine lv_icmp_le (tgt := 174) hx hb d_Primitives_ofTwo_167 (by decide) (fun c15 => ?_) (fun c15 => ?_)
                      · have hF := hF.trans (if_pos c15)
                        refine lv_iload_n hx hb d_Primitives_ofTwo_174 rfl (lv_at hl 1 rfl) ?_
                        refine lv_iload_n hx hb d_Primitives_ofTwo_175 rfl (lv_at hl 2 rfl) ?_
                        refine lv_iushr (v := (x2.toUInt32 >>> (x3.toUInt32 &&& Int32.toUInt32 31)).toInt32) hx hb d_Primitives_ofTwo_176 rfl ?_
                        exact W.iret (v := (x2.toUInt32 >>> (x3.toUInt32 &&& Int32.toUInt32 31)).toInt32) hx hb hr (fun t ht hW => ⟨⟨_, (), rfl, ⟨hF.symm, trivial⟩, ⟨by rw [ht]; exact hP, va_K.moved hW.alike hK, hD⟩⟩, hS.F ht⟩) hS.2.2 d_Primitives_ofTwo_177
                      · have hF := hF.trans (if_neg c15)
                        refine lv_iconst (v := 0) hx hb d_Primitives_ofTwo_170 (by decide) ?_
                        refine lv_goto (tgt := 177) hx hb d_Primitives_ofTwo_171 (by decide) ?_
                        exact W.iret (v := 0) hx hb hr (fun t ht hW => ⟨⟨_, (), rfl, ⟨hF.symm, trivial⟩, ⟨by rw [ht]; exact hP, va_K.moved hW.alike hK, hD⟩⟩, hS.F ht⟩) hS.2.2 d_Primitives_ofTwo_177
/-- the picture of ColonMachine$Primitives.useReturns -/
def F_Prim_useReturns (dn : Int32) (df : Nat → Int32) (rn : Int32) (rf : Nat → Int32) (cn : Int32) (x1 : Int32) : Int32 × Int32 × (Nat → Int32) × Int32 × (Nat → Int32) × Int32 := if x1 = 40 then (bd (F_Cells_take dn df) (fun q2 => bd (F_Cells_put 64 rn rf q2.1) (fun q3 => (0, (q2.2, df, q3.1, q3.2, cn))))) else (if x1 = 41 then (bd (F_Cells_take rn rf) (fun q5 => bd (F_Prim_put dn df q5.1) (fun q6 => (q6.1, (q6.2.1, q6.2.2, q5.2, rf, cn))))) else (if x1 = 42 then (bd (F_Cells_at rn rf 0) (fun q8 => bd (F_Prim_put dn df q8) (fun q9 => (q9.1, (q9.2.1, q9.2.2, rn, rf, cn))))) else (if x1 = 61 then (bd (F_Cells_at rn rf 0) (fun q11 => bd (F_Prim_put dn df q11) (fun q12 => (q12.1, (q12.2.1, q12.2.2, rn, rf, cn))))) else (if x1 = 62 then (bd (F_Cells_at rn rf 2) (fun q14 => bd (F_Prim_put dn df q14) (fun q15 => (q15.1, (q15.2.1, q15.2.2, rn, rf, cn))))) else (if x1 = 63 then (bd (F_Cells_drop rn 2) (fun q17 => (0, (dn, df, q17, rf, cn)))) else (bd (F_Calls_end cn) (fun q18 => (0, (dn, df, rn, rf, q18)))))))))
theorem F_Prim_useReturns_e (dn : Int32) (df : Nat → Int32) (rn : Int32) (rf : Nat → Int32) (cn : Int32) (x1 : Int32) : F_Prim_useReturns dn df rn rf cn x1 = if x1 = 40 then (bd (F_Cells_take dn df) (fun q2 => bd (F_Cells_put 64 rn rf q2.1) (fun q3 => (0, (q2.2, df, q3.1, q3.2, cn))))) else (if x1 = 41 then (bd (F_Cells_take rn rf) (fun q5 => bd (F_Prim_put dn df q5.1) (fun q6 => (q6.1, (q6.2.1, q6.2.2, q5.2, rf, cn))))) else (if x1 = 42 then (bd (F_Cells_at rn rf 0) (fun q8 => bd (F_Prim_put dn df q8) (fun q9 => (q9.1, (q9.2.1, q9.2.2, rn, rf, cn))))) else (if x1 = 61 then (bd (F_Cells_at rn rf 0) (fun q11 => bd (F_Prim_put dn df q11) (fun q12 => (q12.1, (q12.2.1, q12.2.2, rn, rf, cn))))) else (if x1 = 62 then (bd (F_Cells_at rn rf 2) (fun q14 => bd (F_Prim_put dn df q14) (fun q15 => (q15.1, (q15.2.1, q15.2.2, rn, rf, cn))))) else (if x1 = 63 then (bd (F_Cells_drop rn 2) (fun q17 => (0, (dn, df, q17, rf, cn)))) else (bd (F_Calls_end cn) (fun q18 => (0, (dn, df, rn, rf, q18))))))))) := rfl
set_option maxHeartbeats 4000000 in
set_option maxRecDepth 100000 in
theorem c_Prim_useReturns (l : Launch) (D : va_G) (cI cJ cZ cW cT : ClassId) (sz : Nat) (pp : Nat) (dd : Nat) (rr : Nat) (kc : Nat) (mm : Nat) (oo : Nat) (tt : Nat) (ww : Nat) (da : Nat) (ra : Nat) (ko : Nat) (kp : Nat) (kr : Nat) (kd : Nat) (dn : Int32) (df : Nat → Int32) (rn : Int32) (rf : Nat → Int32) (cn : Int32) (x1 : Int32) (hid : CellsOk 64 dn) (hir : CellsOk 64 rn) (hic : CallsOk cn) : Met l y_Primitives_useReturns w_Primitives_useReturns ({ frames := 2, cells := 0, slots := 0, locals := 42 }) (va_Pc [.ref pp, .int x1] (zP D classes (TY cI cJ cZ cW cT) [(pp, .inr (6, [.ref dd, .ref rr, .ref kc, .ref mm, .ref oo, .ref tt, .ref ww])), (dd, .inr (1, [.ref da, .int dn])), (da, .inl (cI, 64, .inl df)), (rr, .inr (1, [.ref ra, .int rn])), (ra, .inl (cI, 64, .inl rf)), (kc, .inr (0, [.ref ko, .ref kp, .ref kr, .ref kd, .int cn]))] sz)) (va_Qi (fun (r : Int32) (u : Int32 × (Nat → Int32) × Int32 × (Nat → Int32) × Int32) => (r, u) = F_Prim_useReturns dn df rn rf cn x1 ∧ ((CellsOk 64 u.1) ∧ (CellsOk 64 u.2.2.1) ∧ (CallsOk u.2.2.2.2))) (fun u => zB D classes (TY cI cJ cZ cW cT) (va_A [(pp, .inr (6, [.ref dd, .ref rr, .ref kc, .ref mm, .ref oo, .ref tt, .ref ww])), (dd, .inr (1, [.ref da, .int dn])), (da, .inl (cI, 64, .inl df)), (rr, .inr (1, [.ref ra, .int rn])), (ra, .inl (cI, 64, .inl rf)), (kc, .inr (0, [.ref ko, .ref kp, .ref kr, .ref kd, .int cn]))] sz) [(pp, .inr (6, [.ref dd, .ref rr, .ref kc, .ref mm, .ref oo, .ref tt, .ref ww])), (dd, .inr (1, [.ref da, .int u.1])), (da, .inl (cI, 64, .inl u.2.1)), (rr, .inr (1, [.ref ra, .int u.2.2.1])), (ra, .inl (cI, 64, .inl u.2.2.2.1)), (kc, .inr (0, [.ref ko, .ref kp, .ref kr, .ref kd, .int u.2.2.2.2]))]) (va_A [(pp, .inr (6, [.ref dd, .ref rr, .ref kc, .ref mm, .ref oo, .ref tt, .ref ww])), (dd, .inr (1, [.ref da, .int dn])), (da, .inl (cI, 64, .inl df)), (rr, .inr (1, [.ref ra, .int rn])), (ra, .inl (cI, 64, .inl rf)), (kc, .inr (0, [.ref ko, .ref kp, .ref kr, .ref kd, .int cn]))] sz)) 0 0 (va_A [(pp, .inr (6, [.ref dd, .ref rr, .ref kc, .ref mm, .ref oo, .ref tt, .ref ww])), (dd, .inr (1, [.ref da, .int dn])), (da, .inl (cI, 64, .inl df)), (rr, .inr (1, [.ref ra, .int rn])), (ra, .inl (cI, 64, .inl rf)), (kc, .inr (0, [.ref ko, .ref kp, .ref kr, .ref kd, .int cn]))] sz) := by
  refine Met.ofW (cc := b_Primitives_useReturns) (maxL := 2) (ret := (some .int)) (by decide) rfl ?_
  intro p e s m args below meth c s₁ B hml hv
  obtain ⟨rfl, hsz, hP, hK, hD0, hE⟩ := hv
  have hx := B.exec
  have hb := B.bytes
  have hr := B.returns
  have hts := atoms_spec (ws := w_Primitives_useReturns) B.pre
  have hT : ∀ w ∈ TB, w.before _ s = true := fun w h => hts w (List.mem_cons_of_mem _ h)
  have hown : s.vm.findClass "ColonMachine$Primitives" = some m.cls := findClass_of_methodNamed B.named
  have hlocks := B.notSynchronized
  subst hsz
  have hD := hD0.self (sz := s.heap.size)
  generalize hAe : va_A [(pp, .inr (6, [.ref dd, .ref rr, .ref kc, .ref mm, .ref oo, .ref tt, .ref ww])), (dd, .inr (1, [.ref da, .int dn])), (da, .inl (cI, 64, .inl df)), (rr, .inr (1, [.ref ra, .int rn])), (ra, .inl (cI, 64, .inl rf)), (kc, .inr (0, [.ref ko, .ref kp, .ref kr, .ref kd, .int cn]))] s.heap.size = A at hD hE ⊢
  have hA : ∀ q : Nat, s.heap.size ≤ q → A q := fun q h => by rw [← hAe]; exact Or.inr h
  have hS : va_S A s.heap s.heap [] := va_S.rf
  have hl := lv_entry [.ref pp, .int x1] (n := 2) (Nat.le_of_ble_eq_true rfl)
  rw [lg_entry_eq]
  generalize (lg_sl [.ref pp, .int x1] ++ List.replicate (2 - (lg_sl [.ref pp, .int x1]).length) Slot.unset).toArray = ls at hl ⊢
  have hl : lv_has ls 2 [(0, .ref pp), (1, .int x1)] := hl
  have hF := F_Prim_useReturns_e dn df rn rf cn x1
  refine lv_iload_n hx hb d_Primitives_useReturns_0 rfl (lv_at hl 1 rfl) ?_
  by_cases c1 : x1 = 40
  · have hF := hF.trans (if_pos c1)
    refine lv_lookup (off := 59) (tgt := 60) hx hb d_Primitives_useReturns_1 (by decide) (by rw [c1]; decide) (by decide) ?_
    refine lv_aload_n hx hb d_Primitives_useReturns_60 rfl (lv_at hl 0 rfl) ?_
    refine va_get (D := D) (v := .ref rr) (C := "ColonMachine$Primitives") (T := T_Primitives) (N := 7) hx hb hT i_Primitives hown hK hP 0 rfl rfl 1 (by decide) (hT _ fl_Primitives_15) (fun _ h9 => h9) rfl d_Primitives_useReturns_61 ?_
    refine lv_aload_n hx hb d_Primitives_useReturns_64 rfl (lv_at hl 0 rfl) ?_
    refine va_get (D := D) (v := .ref dd) (C := "ColonMachine$Primitives") (T := T_Primitives) (N := 7) hx hb hT i_Primitives hown hK hP 0 rfl rfl 0 (by decide) (hT _ fl_Primitives_9) (fun _ h9 => h9) rfl d_Primitives_useReturns_65 ?_
    refine kN_si (wr := [(pp, .inr (6, [.ref dd, .ref rr, .ref kc, .ref mm, .ref oo, .ref tt, .ref ww])), (rr, .inr (1, [.ref ra, .int rn])), (ra, .inl (cI, 64, .inl rf)), (kc, .inr (0, [.ref ko, .ref kp, .ref kr, .ref kd, .int cn]))]) (fun u : Int32 => [(pp, .inr (6, [.ref dd, .ref rr, .ref kc, .ref mm, .ref oo, .ref tt, .ref ww])), (dd, .inr (1, [.ref da, .int u])), (da, .inl (cI, 64, .inl df)), (rr, .inr (1, [.ref ra, .int rn])), (ra, .inl (cI, 64, .inl rf)), (kc, .inr (0, [.ref ko, .ref kp, .ref kr, .ref kd, .int cn]))]) (zV (wc := [(dd, .inr (1, [.ref da, .int dn])), (da, .inl (cI, 64, .inl df))]) (As := []) (rest := [.ref rr]) (st0 := [.ref dd, .ref rr]) ⟨hx, hb, hml, hown, hT⟩ (c_Cells_take l D cI cJ cZ cW cT s.heap.size dd da 64 dn df hid) (cwV 0 hT (tbV ml_Primitives_64 im_Cells_take se_Cells_take in_Cells co_Cells_take) rfl rfl rfl v_Cells_take ⟨Nat.le_of_ble_eq_true rfl, Nat.le_of_ble_eq_true rfl⟩) hK hE hP hD hS hA [1, 2] rfl rfl 0 rfl rfl rfl hl.1 rfl (Nat.le_of_ble_eq_true rfl) d_Primitives_useReturns_68 ⟨Nat.le_of_ble_eq_true rfl, Nat.le_of_ble_eq_true rfl⟩) hP hD hS hA [1, 2] [0, 3, 4, 5] rfl rfl rfl (by decide) [0, 4, 5, 1, 2, 3] rfl (fun u => rfl) (fun q2 H locs e2 k2 hP hD hS => ?_)
    have hP : va_P D classes [(pp, .inr (6, [.ref dd, .ref rr, .ref kc, .ref mm, .ref oo, .ref tt, .ref ww])), (dd, .inr (1, [.ref da, .int q2.2])), (da, .inl (cI, 64, .inl df)), (rr, .inr (1, [.ref ra, .int rn])), (ra, .inl (cI, 64, .inl rf)), (kc, .inr (0, [.ref ko, .ref kp, .ref kr, .ref kd, .int cn]))] H := hP
    have hD : va_D A [(pp, .inr (6, [.ref dd, .ref rr, .ref kc, .ref mm, .ref oo, .ref tt, .ref ww])), (dd, .inr (1, [.ref da, .int q2.2])), (da, .inl (cI, 64, .inl df)), (rr, .inr (1, [.ref ra, .int rn])), (ra, .inl (cI, 64, .inl rf)), (kc, .inr (0, [.ref ko, .ref kp, .ref kr, .ref kd, .int cn]))] := hD
    have hF := hF.trans (bd_e e2)
    refine kN_sv (wr := [(pp, .inr (6, [.ref dd, .ref rr, .ref kc, .ref mm, .ref oo, .ref tt, .ref ww])), (dd, .inr (1, [.ref da, .int q2.2])), (da, .inl (cI, 64, .inl df)), (kc, .inr (0, [.ref ko, .ref kp, .ref kr, .ref kd, .int cn]))]) (fun u : Int32 × (Nat → Int32) => [(pp, .inr (6, [.ref dd, .ref rr, .ref kc, .ref mm, .ref oo, .ref tt, .ref ww])), (dd, .inr (1, [.ref da, .int q2.2])), (da, .inl (cI, 64, .inl df)), (rr, .inr (1, [.ref ra, .int u.1])), (ra, .inl (cI, 64, .inl u.2)), (kc, .inr (0, [.ref ko, .ref kp, .ref kr, .ref kd, .int cn]))]) (zV (wc := [(rr, .inr (1, [.ref ra, .int rn])), (ra, .inl (cI, 64, .inl rf))]) (As := [.int q2.1]) (rest := []) (st0 := [.int q2.1, .ref rr]) ⟨hx, hb, hml, hown, hT⟩ (c_Cells_put l D cI cJ cZ cW cT H.size rr ra 64 rn rf q2.1 hir) (cwV 1 hT (tbV ml_Primitives_146 im_Cells_put se_Cells_put in_Cells co_Cells_put) rfl rfl rfl v_Cells_put ⟨Nat.le_of_ble_eq_true rfl, Nat.le_of_ble_eq_true rfl⟩) hK hE hP hD hS hA [3, 4] rfl rfl 0 rfl rfl rfl hl.1 rfl (Nat.le_of_ble_eq_true rfl) d_Primitives_useReturns_71 ⟨Nat.le_of_ble_eq_true rfl, Nat.le_of_ble_eq_true rfl⟩) hP hD hS hA [3, 4] [0, 1, 2, 5] rfl rfl rfl (by decide) [0, 1, 2, 4, 5, 3] rfl (fun u => rfl) (fun q3 H locs e3 k3 hP hD hS => ?_)
    have hP : va_P D classes [(pp, .inr (6, [.ref dd, .ref rr, .ref kc, .ref mm, .ref oo, .ref tt, .ref ww])), (dd, .inr (1, [.ref da, .int q2.2])), (da, .inl (cI, 64, .inl df)), (rr, .inr (1, [.ref ra, .int q3.1])), (ra, .inl (cI, 64, .inl q3.2)), (kc, .inr (0, [.ref ko, .ref kp, .ref kr, .ref kd, .int cn]))] H := hP
    have hD : va_D A [(pp, .inr (6, [.ref dd, .ref rr, .ref kc, .ref mm, .ref oo, .ref tt, .ref ww])), (dd, .inr (1, [.ref da, .int q2.2])), (da, .inl (cI, 64, .inl df)), (rr, .inr (1, [.ref ra, .int q3.1])), (ra, .inl (cI, 64, .inl q3.2)), (kc, .inr (0, [.ref ko, .ref kp, .ref kr, .ref kd, .int cn]))] := hD
    have hF := hF.trans (bd_e e3)
    refine lv_iconst (v := 0) hx hb d_Primitives_useReturns_74 (by decide) ?_
    exact W.iret (v := 0) hx hb hr (fun t ht hW => ⟨⟨_, _, rfl, ⟨hF.symm, ⟨k2, k3, hic⟩⟩, ⟨by rw [ht]; exact hP, va_K.moved hW.alike hK, hD⟩⟩, hS.F ht⟩) hS.2.2 d_Primitives_useReturns_75
  · have hF := hF.trans (if_neg c1)
    by_cases c4 : x1 = 41
    · have hF := hF.trans (if_pos c4)
      refine lv_lookup (off := 75) (tgt := 76) hx hb d_Primitives_useReturns_1 (by decide) (by rw [c4]; decide) (by decide) ?_
      refine lv_aload_n hx hb d_Primitives_useReturns_76 rfl (lv_at hl 0 rfl) ?_
      refine lv_aload_n hx hb d_Primitives_useReturns_77 rfl (lv_at hl 0 rfl) ?_
      refine va_get (D := D) (v := .ref rr) (C := "ColonMachine$Primitives") (T := T_Primitives) (N := 7) hx hb hT i_Primitives hown hK hP 0 rfl rfl 1 (by decide) (hT _ fl_Primitives_15) (fun _ h9 => h9) rfl d_Primitives_useReturns_78 ?_
      refine kN_si (wr := [(pp, .inr (6, [.ref dd, .ref rr, .ref kc, .ref mm, .ref oo, .ref tt, .ref ww])), (dd, .inr (1, [.ref da, .int dn])), (da, .inl (cI, 64, .inl df)), (kc, .inr (0, [.ref ko, .ref kp, .ref kr, .ref kd, .int cn]))]) (fun u : Int32 => [(pp, .inr (6, [.ref dd, .ref rr, .ref kc, .ref mm, .ref oo, .ref tt, .ref ww])), (dd, .inr (1, [.ref da, .int dn])), (da, .inl (cI, 64, .inl df)), (rr, .inr (1, [.ref ra, .int u])), (ra, .inl (cI, 64, .inl rf)), (kc, .inr (0, [.ref ko, .ref kp, .ref kr, .ref kd, .int cn]))]) (zV (wc := [(rr, .inr (1, [.ref ra, .int rn])), (ra, .inl (cI, 64, .inl rf))]) (As := []) (rest := [.ref pp]) (st0 := [.ref rr, .ref pp]) ⟨hx, hb, hml, hown, hT⟩ (c_Cells_take l D cI cJ cZ cW cT s.heap.size rr ra 64 rn rf hir) (cwV 0 hT (tbV ml_Primitives_64 im_Cells_take se_Cells_take in_Cells co_Cells_take) rfl rfl rfl v_Cells_take ⟨Nat.le_of_ble_eq_true rfl, Nat.le_of_ble_eq_true rfl⟩) hK hE hP hD hS hA [3, 4] rfl rfl 0 rfl rfl rfl hl.1 rfl (Nat.le_of_ble_eq_true rfl) d_Primitives_useReturns_81 ⟨Nat.le_of_ble_eq_true rfl, Nat.le_of_ble_eq_true rfl⟩) hP hD hS hA [3, 4] [0, 1, 2, 5] rfl rfl rfl (by decide) [0, 1, 2, 4, 5, 3] rfl (fun u => rfl) (fun q5 H locs e5 k5 hP hD hS => ?_)
      have hP : va_P D classes [(pp, .inr (6, [.ref dd, .ref rr, .ref kc, .ref mm, .ref oo, .ref tt, .ref ww])), (dd, .inr (1, [.ref da, .int dn])), (da, .inl (cI, 64, .inl df)), (rr, .inr (1, [.ref ra, .int q5.2])), (ra, .inl (cI, 64, .inl rf)), (kc, .inr (0, [.ref ko, .ref kp, .ref kr, .ref kd, .int cn]))] H := hP
      have hD : va_D A [(pp, .inr (6, [.ref dd, .ref rr, .ref kc, .ref mm, .ref oo, .ref tt, .ref ww])), (dd, .inr (1, [.ref da, .int dn])), (da, .inl (cI, 64, .inl df)), (rr, .inr (1, [.ref ra, .int q5.2])), (ra, .inl (cI, 64, .inl rf)), (kc, .inr (0, [.ref ko, .ref kp, .ref kr, .ref kd, .int cn]))] := hD
      have hF := hF.trans (bd_e e5)
      refine kN_si (wr := [(rr, .inr (1, [.ref ra, .int q5.2])), (ra, .inl (cI, 64, .inl rf)), (kc, .inr (0, [.ref ko, .ref kp, .ref kr, .ref kd, .int cn]))]) (fun u : Int32 × (Nat → Int32) => [(pp, .inr (6, [.ref dd, .ref rr, .ref kc, .ref mm, .ref oo, .ref tt, .ref ww])), (dd, .inr (1, [.ref da, .int u.1])), (da, .inl (cI, 64, .inl u.2)), (rr, .inr (1, [.ref ra, .int q5.2])), (ra, .inl (cI, 64, .inl rf)), (kc, .inr (0, [.ref ko, .ref kp, .ref kr, .ref kd, .int cn]))]) (zV (wc := [(pp, .inr (6, [.ref dd, .ref rr, .ref kc, .ref mm, .ref oo, .ref tt, .ref ww])), (dd, .inr (1, [.ref da, .int dn])), (da, .inl (cI, 64, .inl df))]) (As := [.int q5.1]) (rest := []) (st0 := [.int q5.1, .ref pp]) ⟨hx, hb, hml, hown, hT⟩ (c_Prim_put l D cI cJ cZ cW cT H.size pp dd rr kc mm oo tt ww da dn df q5.1 hid) (cwV 1 hT (tbV ml_Primitives_119 im_Primitives_put se_Primitives_put in_Primitives co_Primitives_put) rfl rfl rfl v_Primitives_put ⟨Nat.le_of_ble_eq_true rfl, Nat.le_of_ble_eq_true rfl⟩) hK hE hP hD hS hA [0, 1, 2] rfl rfl 0 rfl rfl rfl hl.1 rfl (Nat.le_of_ble_eq_true rfl) d_Primitives_useReturns_84 ⟨Nat.le_of_ble_eq_true rfl, Nat.le_of_ble_eq_true rfl⟩) hP hD hS hA [0, 1, 2] [3, 4, 5] rfl rfl rfl (by decide) [3, 4, 5, 0, 1, 2] rfl (fun u => rfl) (fun q6 H locs e6 k6 hP hD hS => ?_)
      have hP : va_P D classes [(pp, .inr (6, [.ref dd, .ref rr, .ref kc, .ref mm, .ref oo, .ref tt, .ref ww])), (dd, .inr (1, [.ref da, .int q6.2.1])), (da, .inl (cI, 64, .inl q6.2.2)), (rr, .inr (1, [.ref ra, .int q5.2])), (ra, .inl (cI, 64, .inl rf)), (kc, .inr (0, [.ref ko, .ref kp, .ref kr, .ref kd, .int cn]))] H := hP
      have hD : va_D A [(pp, .inr (6, [.ref dd, .ref rr, .ref kc, .ref mm, .ref oo, .ref tt, .ref ww])), (dd, .inr (1, [.ref da, .int q6.2.1])), (da, .inl (cI, 64, .inl q6.2.2)), (rr, .inr (1, [.ref ra, .int q5.2])), (ra, .inl (cI, 64, .inl rf)), (kc, .inr (0, [.ref ko, .ref kp, .ref kr, .ref kd, .int cn]))] := hD
      have hF := hF.trans (bd_e e6)
      exact W.iret (v := q6.1) hx hb hr (fun t ht hW => ⟨⟨_, _, rfl, ⟨hF.symm, ⟨k6, k5, hic⟩⟩, ⟨by rw [ht]; exact hP, va_K.moved hW.alike hK, hD⟩⟩, hS.F ht⟩) hS.2.2 d_Primitives_useReturns_87
    · have hF := hF.trans (if_neg c4)
      by_cases c7 : x1 = 42
      · have hF := hF.trans (if_pos c7)
        refine lv_lookup (off := 87) (tgt := 88) hx hb d_Primitives_useReturns_1 (by decide) (by rw [c7]; decide) (by decide) ?_
        refine lv_aload_n hx hb d_Primitives_useReturns_88 rfl (lv_at hl 0 rfl) ?_
        refine lv_aload_n hx hb d_Primitives_useReturns_89 rfl (lv_at hl 0 rfl) ?_
        refine va_get (D := D) (v := .ref rr) (C := "ColonMachine$Primitives") (T := T_Primitives) (N := 7) hx hb hT i_Primitives hown hK hP 0 rfl rfl 1 (by decide) (hT _ fl_Primitives_15) (fun _ h9 => h9) rfl d_Primitives_useReturns_90 ?_
        refine lv_iconst (v := 0) hx hb d_Primitives_useReturns_93 (by decide) ?_
        refine kN_pi (wr := [(pp, .inr (6, [.ref dd, .ref rr, .ref kc, .ref mm, .ref oo, .ref tt, .ref ww])), (dd, .inr (1, [.ref da, .int dn])), (da, .inl (cI, 64, .inl df)), (kc, .inr (0, [.ref ko, .ref kp, .ref kr, .ref kd, .int cn]))]) (zV (wc := [(rr, .inr (1, [.ref ra, .int rn])), (ra, .inl (cI, 64, .inl rf))]) (As := [.int 0]) (rest := [.ref pp]) (st0 := [.int 0, .ref rr, .ref pp]) ⟨hx, hb, hml, hown, hT⟩ (c_Cells_at l D cI cJ cZ cW cT s.heap.size rr ra 64 rn rf 0 hir) (cwV 1 hT (tbV ml_Primitives_116 im_Cells_at se_Cells_at in_Cells co_Cells_at) rfl rfl rfl v_Cells_at ⟨Nat.le_of_ble_eq_true rfl, Nat.le_of_ble_eq_true rfl⟩) hK hE hP hD hS hA [3, 4] rfl rfl 0 rfl rfl rfl hl.1 rfl (Nat.le_of_ble_eq_true rfl) d_Primitives_useReturns_94 ⟨Nat.le_of_ble_eq_true rfl, Nat.le_of_ble_eq_true rfl⟩) hP hD hS hA [3, 4] [0, 1, 2, 5] rfl rfl rfl (by decide) [0, 1, 2, 4, 5, 3] rfl rfl (fun q8 H locs e8 k8 hP hD hS => ?_)
        have hP : va_P D classes [(pp, .inr (6, [.ref dd, .ref rr, .ref kc, .ref mm, .ref oo, .ref tt, .ref ww])), (dd, .inr (1, [.ref da, .int dn])), (da, .inl (cI, 64, .inl df)), (rr, .inr (1, [.ref ra, .int rn])), (ra, .inl (cI, 64, .inl rf)), (kc, .inr (0, [.ref ko, .ref kp, .ref kr, .ref kd, .int cn]))] H := hP
        have hD : va_D A [(pp, .inr (6, [.ref dd, .ref rr, .ref kc, .ref mm, .ref oo, .ref tt, .ref ww])), (dd, .inr (1, [.ref da, .int dn])), (da, .inl (cI, 64, .inl df)), (rr, .inr (1, [.ref ra, .int rn])), (ra, .inl (cI, 64, .inl rf)), (kc, .inr (0, [.ref ko, .ref kp, .ref kr, .ref kd, .int cn]))] := hD
        have hF := hF.trans (bd_e e8)
        refine kN_si (wr := [(rr, .inr (1, [.ref ra, .int rn])), (ra, .inl (cI, 64, .inl rf)), (kc, .inr (0, [.ref ko, .ref kp, .ref kr, .ref kd, .int cn]))]) (fun u : Int32 × (Nat → Int32) => [(pp, .inr (6, [.ref dd, .ref rr, .ref kc, .ref mm, .ref oo, .ref tt, .ref ww])), (dd, .inr (1, [.ref da, .int u.1])), (da, .inl (cI, 64, .inl u.2)), (rr, .inr (1, [.ref ra, .int rn])), (ra, .inl (cI, 64, .inl rf)), (kc, .inr (0, [.ref ko, .ref kp, .ref kr, .ref kd, .int cn]))]) (zV (wc := [(pp, .inr (6, [.ref dd, .ref rr, .ref kc, .ref mm, .ref oo, .ref tt, .ref ww])), (dd, .inr (1, [.ref da, .int dn])), (da, .inl (cI, 64, .inl df))]) (As := [.int q8]) (rest := []) (st0 := [.int q8, .ref pp]) ⟨hx, hb, hml, hown, hT⟩ (c_Prim_put l D cI cJ cZ cW cT H.size pp dd rr kc mm oo tt ww da dn df q8 hid) (cwV 1 hT (tbV ml_Primitives_119 im_Primitives_put se_Primitives_put in_Primitives co_Primitives_put) rfl rfl rfl v_Primitives_put ⟨Nat.le_of_ble_eq_true rfl, Nat.le_of_ble_eq_true rfl⟩) hK hE hP hD hS hA [0, 1, 2] rfl rfl 0 rfl rfl rfl hl.1 rfl (Nat.le_of_ble_eq_true rfl) d_Primitives_useReturns_97 ⟨Nat.le_of_ble_eq_true rfl, Nat.le_of_ble_eq_true rfl⟩) hP hD hS hA [0, 1, 2] [3, 4, 5] rfl rfl rfl (by decide) [3, 4, 5, 0, 1, 2] rfl (fun u => rfl) (fun q9 H locs e9 k9 hP hD hS => ?_)
        have hP : va_P D classes [(pp, .inr (6, [.ref dd, .ref rr, .ref kc, .ref mm, .ref oo, .ref tt, .ref ww])), (dd, .inr (1, [.ref da, .int q9.2.1])), (da, .inl (cI, 64, .inl q9.2.2)), (rr, .inr (1, [.ref ra, .int rn])), (ra, .inl (cI, 64, .inl rf)), (kc, .inr (0, [.ref ko, .ref kp, .ref kr, .ref kd, .int cn]))] H := hP
        have hD : va_D A [(pp, .inr (6, [.ref dd, .ref rr, .ref kc, .ref mm, .ref oo, .ref tt, .ref ww])), (dd, .inr (1, [.ref da, .int q9.2.1])), (da, .inl (cI, 64, .inl q9.2.2)), (rr, .inr (1, [.ref ra, .int rn])), (ra, .inl (cI, 64, .inl rf)), (kc, .inr (0, [.ref ko, .ref kp, .ref kr, .ref kd, .int cn]))] := hD
        have hF := hF.trans (bd_e e9)
        exact W.iret (v := q9.1) hx hb hr (fun t ht hW => ⟨⟨_, _, rfl, ⟨hF.symm, ⟨k9, hir, hic⟩⟩, ⟨by rw [ht]; exact hP, va_K.moved hW.alike hK, hD⟩⟩, hS.F ht⟩) hS.2.2 d_Primitives_useReturns_100
      · have hF := hF.trans (if_neg c7)
        by_cases c10 : x1 = 61
        · have hF := hF.trans (if_pos c10)
          refine lv_lookup (off := 87) (tgt := 88) hx hb d_Primitives_useReturns_1 (by decide) (by rw [c10]; decide) (by decide) ?_
          refine lv_aload_n hx hb d_Primitives_useReturns_88 rfl (lv_at hl 0 rfl) ?_
          refine lv_aload_n hx hb d_Primitives_useReturns_89 rfl (lv_at hl 0 rfl) ?_
          refine va_get (D := D) (v := .ref rr) (C := "ColonMachine$Primitives") (T := T_Primitives) (N := 7) hx hb hT i_Primitives hown hK hP 0 rfl rfl 1 (by decide) (hT _ fl_Primitives_15) (fun _ h9 => h9) rfl d_Primitives_useReturns_90 ?_
          refine lv_iconst (v := 0) hx hb d_Primitives_useReturns_93 (by decide) ?_
          refine kN_pi (wr := [(pp, .inr (6, [.ref dd, .ref rr, .ref kc, .ref mm, .ref oo, .ref tt, .ref ww])), (dd, .inr (1, [.ref da, .int dn])), (da, .inl (cI, 64, .inl df)), (kc, .inr (0, [.ref ko, .ref kp, .ref kr, .ref kd, .int cn]))]) (zV (wc := [(rr, .inr (1, [.ref ra, .int rn])), (ra, .inl (cI, 64, .inl rf))]) (As := [.int 0]) (rest := [.ref pp]) (st0 := [.int 0, .ref rr, .ref pp]) ⟨hx, hb, hml, hown, hT⟩ (c_Cells_at l D cI cJ cZ cW cT s.heap.size rr ra 64 rn rf 0 hir) (cwV 1 hT (tbV ml_Primitives_116 im_Cells_at se_Cells_at in_Cells co_Cells_at) rfl rfl rfl v_Cells_at ⟨Nat.le_of_ble_eq_true rfl, Nat.le_of_ble_eq_true rfl⟩) hK hE hP hD hS hA [3, 4] rfl rfl 0 rfl rfl rfl hl.1 rfl (Nat.le_of_ble_eq_true rfl) d_Primitives_useReturns_94 ⟨Nat.le_of_ble_eq_true rfl, Nat.le_of_ble_eq_true rfl⟩) hP hD hS hA [3, 4] [0, 1, 2, 5] rfl rfl rfl (by decide) [0, 1, 2, 4, 5, 3] rfl rfl (fun q11 H locs e11 k11 hP hD hS => ?_)
          have hP : va_P D classes [(pp, .inr (6, [.ref dd, .ref rr, .ref kc, .ref mm, .ref oo, .ref tt, .ref ww])), (dd, .inr (1, [.ref da, .int dn])), (da, .inl (cI, 64, .inl df)), (rr, .inr (1, [.ref ra, .int rn])), (ra, .inl (cI, 64, .inl rf)), (kc, .inr (0, [.ref ko, .ref kp, .ref kr, .ref kd, .int cn]))] H := hP
          have hD : va_D A [(pp, .inr (6, [.ref dd, .ref rr, .ref kc, .ref mm, .ref oo, .ref tt, .ref ww])), (dd, .inr (1, [.ref da, .int dn])), (da, .inl (cI, 64, .inl df)), (rr, .inr (1, [.ref ra, .int rn])), (ra, .inl (cI, 64, .inl rf)), (kc, .inr (0, [.ref ko, .ref kp, .ref kr, .ref kd, .int cn]))] := hD
          have hF := hF.trans (bd_e e11)
          refine kN_si (wr := [(rr, .inr (1, [.ref ra, .int rn])), (ra, .inl (cI, 64, .inl rf)), (kc, .inr (0, [.ref ko, .ref kp, .ref kr, .ref kd, .int cn]))]) (fun u : Int32 × (Nat → Int32) => [(pp, .inr (6, [.ref dd, .ref rr, .ref kc, .ref mm, .ref oo, .ref tt, .ref ww])), (dd, .inr (1, [.ref da, .int u.1])), (da, .inl (cI, 64, .inl u.2)), (rr, .inr (1, [.ref ra, .int rn])), (ra, .inl (cI, 64, .inl rf)), (kc, .inr (0, [.ref ko, .ref kp, .ref kr, .ref kd, .int cn]))]) (zV (wc := [(pp, .inr (6, [.ref dd, .ref rr, .ref kc, .ref mm, .ref oo, .ref tt, .ref ww])), (dd, .inr (1, [.ref da, .int dn])), (da, .inl (cI, 64, .inl df))]) (As := [.int q11]) (rest := []) (st0 := [.int q11, .ref pp]) ⟨hx, hb, hml, hown, hT⟩ (c_Prim_put l D cI cJ cZ cW cT H.size pp dd rr kc mm oo tt ww da dn df q11 hid) (cwV 1 hT (tbV ml_Primitives_119 im_Primitives_put se_Primitives_put in_Primitives co_Primitives_put) rfl rfl rfl v_Primitives_put ⟨Nat.le_of_ble_eq_true rfl, Nat.le_of_ble_eq_true rfl⟩) hK hE hP hD hS hA [0, 1, 2] rfl rfl 0 rfl rfl rfl hl.1 rfl (Nat.le_of_ble_eq_true rfl) d_Primitives_useReturns_97 ⟨Nat.le_of_ble_eq_true rfl, Nat.le_of_ble_eq_true rfl⟩) hP hD hS hA [0, 1, 2] [3, 4, 5] rfl rfl rfl (by decide) [3, 4, 5, 0, 1, 2] rfl (fun u => rfl) (fun q12 H locs e12 k12 hP hD hS => ?_)
          have hP : va_P D classes [(pp, .inr (6, [.ref dd, .ref rr, .ref kc, .ref mm, .ref oo, .ref tt, .ref ww])), (dd, .inr (1, [.ref da, .int q12.2.1])), (da, .inl (cI, 64, .inl q12.2.2)), (rr, .inr (1, [.ref ra, .int rn])), (ra, .inl (cI, 64, .inl rf)), (kc, .inr (0, [.ref ko, .ref kp, .ref kr, .ref kd, .int cn]))] H := hP
          have hD : va_D A [(pp, .inr (6, [.ref dd, .ref rr, .ref kc, .ref mm, .ref oo, .ref tt, .ref ww])), (dd, .inr (1, [.ref da, .int q12.2.1])), (da, .inl (cI, 64, .inl q12.2.2)), (rr, .inr (1, [.ref ra, .int rn])), (ra, .inl (cI, 64, .inl rf)), (kc, .inr (0, [.ref ko, .ref kp, .ref kr, .ref kd, .int cn]))] := hD
          have hF := hF.trans (bd_e e12)
          exact W.iret (v := q12.1) hx hb hr (fun t ht hW => ⟨⟨_, _, rfl, ⟨hF.symm, ⟨k12, hir, hic⟩⟩, ⟨by rw [ht]; exact hP, va_K.moved hW.alike hK, hD⟩⟩, hS.F ht⟩) hS.2.2 d_Primitives_useReturns_100
        · have hF := hF.trans (if_neg c10)
          by_cases c13 : x1 = 62
          · have hF := hF.trans (if_pos c13)
            refine lv_lookup (off := 100) (tgt := 101) hx hb d_Primitives_useReturns_1 (by decide) (by rw [c13]; decide) (by decide) ?_
            refine lv_aload_n hx hb d_Primitives_useReturns_101 rfl (lv_at hl 0 rfl) ?_
            refine lv_aload_n hx hb d_Primitives_useReturns_102 rfl (lv_at hl 0 rfl) ?_
            refine va_get (D := D) (v := .ref rr) (C := "ColonMachine$Primitives") (T := T_Primitives) (N := 7) hx hb hT i_Primitives hown hK hP 0 rfl rfl 1 (by decide) (hT _ fl_Primitives_15) (fun _ h9 => h9) rfl d_Primitives_useReturns_103 ?_
            refine lv_iconst (v := 2) hx hb d_Primitives_useReturns_106 (by decide) ?_
            refine kN_pi (wr := [(pp, .inr (6, [.ref dd, .ref rr, .ref kc, .ref mm, .ref oo, .ref tt, .ref ww])), (dd, .inr (1, [.ref da, .int dn])), (da, .inl (cI, 64, .inl df)), (kc, .inr (0, [.ref ko, .ref kp, .ref kr, .ref kd, .int cn]))]) (zV (wc := [(rr, .inr (1, [.ref ra, .int rn])), (ra, .inl (cI, 64, .inl rf))]) (As := [.int 2]) (rest := [.ref pp]) (st0 := [.int 2, .ref rr, .ref pp]) ⟨hx, hb, hml, hown, hT⟩ (c_Cells_at l D cI cJ cZ cW cT s.heap.size rr ra 64 rn rf 2 hir) (cwV 1 hT (tbV ml_Primitives_116 im_Cells_at se_Cells_at in_Cells co_Cells_at) rfl rfl rfl v_Cells_at ⟨Nat.le_of_ble_eq_true rfl, Nat.le_of_ble_eq_true rfl⟩) hK hE hP hD hS hA [3, 4] rfl rfl 0 rfl rfl rfl hl.1 rfl (Nat.le_of_ble_eq_true rfl) d_Primitives_useReturns_107 ⟨Nat.le_of_ble_eq_true rfl, Nat.le_of_ble_eq_true rfl⟩) hP hD hS hA [3, 4] [0, 1, 2, 5] rfl rfl rfl (by decide) [0, 1, 2, 4, 5, 3] rfl rfl (fun q14 H locs e14 k14 hP hD hS => ?_)
            have hP : va_P D classes [(pp, .inr (6, [.ref dd, .ref rr, .ref kc, .ref mm, .ref oo, .ref tt, .ref ww])), (dd, .inr (1, [.ref da, .int dn])), (da, .inl (cI, 64, .inl df)), (rr, .inr (1, [.ref ra, .int rn])), (ra, .inl (cI, 64, .inl rf)), (kc, .inr (0, [.ref ko, .ref kp, .ref kr, .ref kd, .int cn]))] H := hP
            have hD : va_D A [(pp, .inr (6, [.ref dd, .ref rr, .ref kc, .ref mm, .ref oo, .ref tt, .ref ww])), (dd, .inr (1, [.ref da, .int dn])), (da, .inl (cI, 64, .inl df)), (rr, .inr (1, [.ref ra, .int rn])), (ra, .inl (cI, 64, .inl rf)), (kc, .inr (0, [.ref ko, .ref kp, .ref kr, .ref kd, .int cn]))] := hD
            have hF := hF.trans (bd_e e14)
            refine kN_si (wr := [(rr, .inr (1, [.ref ra, .int rn])), (ra, .inl (cI, 64, .inl rf)), (kc, .inr (0, [.ref ko, .ref kp, .ref kr, .ref kd, .int cn]))]) (fun u : Int32 × (Nat → Int32) => [(pp, .inr (6, [.ref dd, .ref rr, .ref kc, .ref mm, .ref oo, .ref tt, .ref ww])), (dd, .inr (1, [.ref da, .int u.1])), (da, .inl (cI, 64, .inl u.2)), (rr, .inr (1, [.ref ra, .int rn])), (ra, .inl (cI, 64, .inl rf)), (kc, .inr (0, [.ref ko, .ref kp, .ref kr, .ref kd, .int cn]))]) (zV (wc := [(pp, .inr (6, [.ref dd, .ref rr, .ref kc, .ref mm, .ref oo, .ref tt, .ref ww])), (dd, .inr (1, [.ref da, .int dn])), (da, .inl (cI, 64, .inl df))]) (As := [.int q14]) (rest := []) (st0 := [.int q14, .ref pp]) ⟨hx, hb, hml, hown, hT⟩ (c_Prim_put l D cI cJ cZ cW cT H.size pp dd rr kc mm oo tt ww da dn df q14 hid) (cwV 1 hT (tbV ml_Primitives_119 im_Primitives_put se_Primitives_put in_Primitives co_Primitives_put) rfl rfl rfl v_Primitives_put ⟨Nat.le_of_ble_eq_true rfl, Nat.le_of_ble_eq_true rfl⟩) hK hE hP hD hS hA [0, 1, 2] rfl rfl 0 rfl rfl rfl hl.1 rfl (Nat.le_of_ble_eq_true rfl) d_Primitives_useReturns_110 ⟨Nat.le_of_ble_eq_true rfl, Nat.le_of_ble_eq_true rfl⟩) hP hD hS hA [0, 1, 2] [3, 4, 5] rfl rfl rfl (by decide) [3, 4, 5, 0, 1, 2] rfl (fun u => rfl) (fun q15 H locs e15 k15 hP hD hS => ?_)
            have hP : va_P D classes [(pp, .inr (6, [.ref dd, .ref rr, .ref kc, .ref mm, .ref oo, .ref tt, .ref ww])), (dd, .inr (1, [.ref da, .int q15.2.1])), (da, .inl (cI, 64, .inl q15.2.2)), (rr, .inr (1, [.ref ra, .int rn])), (ra, .inl (cI, 64, .inl rf)), (kc, .inr (0, [.ref ko, .ref kp, .ref kr, .ref kd, .int cn]))] H := hP
            have hD : va_D A [(pp, .inr (6, [.ref dd, .ref rr, .ref kc, .ref mm, .ref oo, .ref tt, .ref ww])), (dd, .inr (1, [.ref da, .int q15.2.1])), (da, .inl (cI, 64, .inl q15.2.2)), (rr, .inr (1, [.ref ra, .int rn])), (ra, .inl (cI, 64, .inl rf)), (kc, .inr (0, [.ref ko, .ref kp, .ref kr, .ref kd, .int cn]))] := hD
            have hF := hF.trans (bd_e e15)
            exact W.iret (v := q15.1) hx hb hr (fun t ht hW => ⟨⟨_, _, rfl, ⟨hF.symm, ⟨k15, hir, hic⟩⟩, ⟨by rw [ht]; exact hP, va_K.moved hW.alike hK, hD⟩⟩, hS.F ht⟩) hS.2.2 d_Primitives_useReturns_113
          · have hF := hF.trans (if_neg c13)
            by_cases c16 : x1 = 63
            · have hF := hF.trans (if_pos c16)
              refine lv_lookup (off := 113) (tgt := 114) hx hb d_Primitives_useReturns_1 (by decide) (by rw [c16]; decide) (by decide) ?_
              refine lv_aload_n hx hb d_Primitives_useReturns_114 rfl (lv_at hl 0 rfl) ?_
              refine va_get (D := D) (v := .ref rr) (C := "ColonMachine$Primitives") (T := T_Primitives) (N := 7) hx hb hT i_Primitives hown hK hP 0 rfl rfl 1 (by decide) (hT _ fl_Primitives_15) (fun _ h9 => h9) rfl d_Primitives_useReturns_115 ?_
              refine lv_iconst (v := 2) hx hb d_Primitives_useReturns_118 (by decide) ?_
              refine kN_sv (wr := [(pp, .inr (6, [.ref dd, .ref rr, .ref kc, .ref mm, .ref oo, .ref tt, .ref ww])), (dd, .inr (1, [.ref da, .int dn])), (da, .inl (cI, 64, .inl df)), (ra, .inl (cI, 64, .inl rf)), (kc, .inr (0, [.ref ko, .ref kp, .ref kr, .ref kd, .int cn]))]) (fun u : Int32 => [(pp, .inr (6, [.ref dd, .ref rr, .ref kc, .ref mm, .ref oo, .ref tt, .ref ww])), (dd, .inr (1, [.ref da, .int dn])), (da, .inl (cI, 64, .inl df)), (rr, .inr (1, [.ref ra, .int u])), (ra, .inl (cI, 64, .inl rf)), (kc, .inr (0, [.ref ko, .ref kp, .ref kr, .ref kd, .int cn]))]) (zV (wc := [(rr, .inr (1, [.ref ra, .int rn]))]) (As := [.int 2]) (rest := []) (st0 := [.int 2, .ref rr]) ⟨hx, hb, hml, hown, hT⟩ (c_Cells_drop l D cI cJ cZ cW cT s.heap.size rr ra 64 rn 2 hir (by have := ti_lo dn; have := ti_hi dn; have := ti_lo rn; have := ti_hi rn; have := ti_lo cn; have := ti_hi cn; have := ti_lo x1; have := ti_hi x1; have t0 : Int32.toInt 0 = 0 := rfl; have t2 : Int32.toInt 2 = 2 := rfl; have t64 : Int32.toInt 64 = 64 := rfl; have t40 : Int32.toInt 40 = 40 := rfl; have t41 : Int32.toInt 41 = 41 := rfl; have t42 : Int32.toInt 42 = 42 := rfl; have t61 : Int32.toInt 61 = 61 := rfl; have t62 : Int32.toInt 62 = 62 := rfl; have t63 : Int32.toInt 63 = 63 := rfl; (try simp only [true_or, or_true, true_and, and_true, z_tn, CellsOk, CallsOk, TextOk, MemOk, OutOk, Int32.lt_iff_toInt_lt, Int32.le_iff_toInt_le, ← Int32.toInt_inj, Int32.toInt_add, Int32.toInt_sub, Int32.toInt_mul, Int32.toInt_neg, zbm, zbm', t0, t2, t64, t40, t41, t42, t61, t62, t63] at c1 c4 c7 c10 c13 c16 hid hir hic ⊢) <;> omega)) (cwV 1 hT (tbV ml_Primitives_149 im_Cells_drop se_Cells_drop in_Cells co_Cells_drop) rfl rfl rfl v_Cells_drop ⟨Nat.le_of_ble_eq_true rfl, Nat.le_of_ble_eq_true rfl⟩) hK hE hP hD hS hA [3] rfl rfl 0 rfl rfl rfl hl.1 rfl (Nat.le_of_ble_eq_true rfl) d_Primitives_useReturns_119 ⟨Nat.le_of_ble_eq_true rfl, Nat.le_of_ble_eq_true rfl⟩) hP hD hS hA [3] [0, 1, 2, 4, 5] rfl rfl rfl (by decide) [0, 1, 2, 5, 3, 4] rfl (fun u => rfl) (fun q17 H locs e17 k17 hP hD hS => ?_)
              have hP : va_P D classes [(pp, .inr (6, [.ref dd, .ref rr, .ref kc, .ref mm, .ref oo, .ref tt, .ref ww])), (dd, .inr (1, [.ref da, .int dn])), (da, .inl (cI, 64, .inl df)), (rr, .inr (1, [.ref ra, .int q17])), (ra, .inl (cI, 64, .inl rf)), (kc, .inr (0, [.ref ko, .ref kp, .ref kr, .ref kd, .int cn]))] H := hP
              have hD : va_D A [(pp, .inr (6, [.ref dd, .ref rr, .ref kc, .ref mm, .ref oo, .ref tt, .ref ww])), (dd, .inr (1, [.ref da, .int dn])), (da, .inl (cI, 64, .inl df)), (rr, .inr (1, [.ref ra, .int q17])), (ra, .inl (cI, 64, .inl rf)), (kc, .inr (0, [.ref ko, .ref kp, .ref kr, .ref kd, .int cn]))] := hD
              have hF := hF.trans (bd_e e17)
              refine lv_iconst (v := 0) hx hb d_Primitives_useReturns_122 (by decide) ?_
              exact W.iret (v := 0) hx hb hr (fun t ht hW => ⟨⟨_, _, rfl, ⟨hF.symm, ⟨hid, k17, hic⟩⟩, ⟨by rw [ht]; exact hP, va_K.moved hW.alike hK, hD⟩⟩, hS.F ht⟩) hS.2.2 d_Primitives_useReturns_123
            · have hF := hF.trans (if_neg c16)
              refine lv_lookup (off := 123) (tgt := 124) hx hb d_Primitives_useReturns_1 (by decide) ((lv_osw (a := 40) c1 rfl).trans ((lv_osw (a := 41) c4 rfl).trans ((lv_osw (a := 42) c7 rfl).trans ((lv_osw (a := 61) c10 rfl).trans ((lv_osw (a := 62) c13 rfl).trans ((lv_osw (a := 63) c16 rfl).trans rfl)))))) (by decide) ?_
              refine lv_aload_n hx hb d_Primitives_useReturns_124 rfl (lv_at hl 0 rfl) ?_
              refine va_get (D := D) (v := .ref kc) (C := "ColonMachine$Primitives") (T := T_Primitives) (N := 7) hx hb hT i_Primitives hown hK hP 0 rfl rfl 2 (by decide) (hT _ fl_Primitives_18) (fun _ h9 => h9) rfl d_Primitives_useReturns_125 ?_
              refine kN_sv (wr := [(pp, .inr (6, [.ref dd, .ref rr, .ref kc, .ref mm, .ref oo, .ref tt, .ref ww])), (dd, .inr (1, [.ref da, .int dn])), (da, .inl (cI, 64, .inl df)), (rr, .inr (1, [.ref ra, .int rn])), (ra, .inl (cI, 64, .inl rf))]) (fun u : Int32 => [(pp, .inr (6, [.ref dd, .ref rr, .ref kc, .ref mm, .ref oo, .ref tt, .ref ww])), (dd, .inr (1, [.ref da, .int dn])), (da, .inl (cI, 64, .inl df)), (rr, .inr (1, [.ref ra, .int rn])), (ra, .inl (cI, 64, .inl rf)), (kc, .inr (0, [.ref ko, .ref kp, .ref kr, .ref kd, .int u]))]) (zV (wc := [(kc, .inr (0, [.ref ko, .ref kp, .ref kr, .ref kd, .int cn]))]) (As := []) (rest := []) (st0 := [.ref kc]) ⟨hx, hb, hml, hown, hT⟩ (c_Calls_end l D cI cJ cZ cW cT s.heap.size kc ko kp kr kd cn hic) (cwV 0 hT (tbV ml_Primitives_188 im_Calls_end se_Calls_end in_Calls co_Calls_end) rfl rfl rfl v_Calls_end ⟨Nat.le_of_ble_eq_true rfl, Nat.le_of_ble_eq_true rfl⟩) hK hE hP hD hS hA [5] rfl rfl 0 rfl rfl rfl hl.1 rfl (Nat.le_of_ble_eq_true rfl) d_Primitives_useReturns_128 ⟨Nat.le_of_ble_eq_true rfl, Nat.le_of_ble_eq_true rfl⟩) hP hD hS hA [5] [0, 1, 2, 3, 4] rfl rfl rfl (by decide) [0, 1, 2, 3, 4, 5] rfl (fun u => rfl) (fun q18 H locs e18 k18 hP hD hS => ?_)
              have hP : va_P D classes [(pp, .inr (6, [.ref dd, .ref rr, .ref kc, .ref mm, .ref oo, .ref tt, .ref ww])), (dd, .inr (1, [.ref da, .int dn])), (da, .inl (cI, 64, .inl df)), (rr, .inr (1, [.ref ra, .int rn])), (ra, .inl (cI, 64, .inl rf)), (kc, .inr (0, [.ref ko, .ref kp, .ref kr, .ref kd, .int q18]))] H := hP
              have hD : va_D A [(pp, .inr (6, [.ref dd, .ref rr, .ref kc, .ref mm, .ref oo, .ref tt, .ref ww])), (dd, .inr (1, [.ref da, .int dn])), (da, .inl (cI, 64, .inl df)), (rr, .inr (1, [.ref ra, .int rn])), (ra, .inl (cI, 64, .inl rf)), (kc, .inr (0, [.ref ko, .ref kp, .ref kr, .ref kd, .int q18]))] := hD
              have hF := hF.trans (bd_e e18)
              refine lv_iconst (v := 0) hx hb d_Primitives_useReturns_131 (by decide) ?_
              exact W.iret (v := 0) hx hb hr (fun t ht hW => ⟨⟨_, _, rfl, ⟨hF.symm, ⟨hid, hir, k18⟩⟩, ⟨by rw [ht]; exact hP, va_K.moved hW.alike hK, hD⟩⟩, hS.F ht⟩) hS.2.2 d_Primitives_useReturns_132
/-- the picture of ColonMachine$Primitives.read -/
def F_Prim_read (dn : Int32) (df : Nat → Int32) (he : Int32) (fc : Nat → Int32) (fb : Nat → Int32) : Int32 × (Nat → Int32) := bd (F_Cells_at dn df 0) (fun q1 => bd (F_Memory_isValid he fb q1) (fun q2 => if q2 = 0 then ((-9), df) else (bd (F_Cells_at dn df 0) (fun q4 => bd (F_Memory_read fc q4) (fun q5 => bd (F_Cells_set dn df 0 q5) (fun q6 => (0, q6)))))))
theorem F_Prim_read_e (dn : Int32) (df : Nat → Int32) (he : Int32) (fc : Nat → Int32) (fb : Nat → Int32) : F_Prim_read dn df he fc fb = bd (F_Cells_at dn df 0) (fun q1 => bd (F_Memory_isValid he fb q1) (fun q2 => if q2 = 0 then ((-9), df) else (bd (F_Cells_at dn df 0) (fun q4 => bd (F_Memory_read fc q4) (fun q5 => bd (F_Cells_set dn df 0 q5) (fun q6 => (0, q6))))))) := rfl
set_option maxHeartbeats 4000000 in
set_option maxRecDepth 100000 in
theorem c_Prim_read (l : Launch) (D : va_G) (cI cJ cZ cW cT : ClassId) (sz : Nat) (pp : Nat) (dd : Nat) (rr : Nat) (kc : Nat) (mm : Nat) (oo : Nat) (tt : Nat) (ww : Nat) (da : Nat) (ma : Nat) (mb : Nat) (dn : Int32) (df : Nat → Int32) (he : Int32) (fc : Nat → Int32) (fb : Nat → Int32) (hid : CellsOk 64 dn) (him : MemOk he) : Met l y_Primitives_read w_Primitives_read ({ frames := 1, cells := 0, slots := 0, locals := 22 }) (va_Pc [.ref pp] (zP D classes (TY cI cJ cZ cW cT) [(pp, .inr (6, [.ref dd, .ref rr, .ref kc, .ref mm, .ref oo, .ref tt, .ref ww])), (dd, .inr (1, [.ref da, .int dn])), (da, .inl (cI, 64, .inl df)), (mm, .inr (4, [.ref ma, .ref mb, .int he])), (ma, .inl (cI, 1000, .inl fc)), (mb, .inl (cI, 600, .inl fb))] sz)) (va_Qi (fun (r : Int32) (u : (Nat → Int32)) => (r, u) = F_Prim_read dn df he fc fb ∧ (True)) (fun u => zB D classes (TY cI cJ cZ cW cT) (va_A [(pp, .inr (6, [.ref dd, .ref rr, .ref kc, .ref mm, .ref oo, .ref tt, .ref ww])), (dd, .inr (1, [.ref da, .int dn])), (da, .inl (cI, 64, .inl df)), (mm, .inr (4, [.ref ma, .ref mb, .int he])), (ma, .inl (cI, 1000, .inl fc)), (mb, .inl (cI, 600, .inl fb))] sz) [(pp, .inr (6, [.ref dd, .ref rr, .ref kc, .ref mm, .ref oo, .ref tt, .ref ww])), (dd, .inr (1, [.ref da, .int dn])), (da, .inl (cI, 64, .inl u)), (mm, .inr (4, [.ref ma, .ref mb, .int he])), (ma, .inl (cI, 1000, .inl fc)), (mb, .inl (cI, 600, .inl fb))]) (va_A [(pp, .inr (6, [.ref dd, .ref rr, .ref kc, .ref mm, .ref oo, .ref tt, .ref ww])), (dd, .inr (1, [.ref da, .int dn])), (da, .inl (cI, 64, .inl df)), (mm, .inr (4, [.ref ma, .ref mb, .int he])), (ma, .inl (cI, 1000, .inl fc)), (mb, .inl (cI, 600, .inl fb))] sz)) 0 0 (va_A [(pp, .inr (6, [.ref dd, .ref rr, .ref kc, .ref mm, .ref oo, .ref tt, .ref ww])), (dd, .inr (1, [.ref da, .int dn])), (da, .inl (cI, 64, .inl df)), (mm, .inr (4, [.ref ma, .ref mb, .int he])), (ma, .inl (cI, 1000, .inl fc)), (mb, .inl (cI, 600, .inl fb))] sz) := by
  refine Met.ofW (cc := b_Primitives_read) (maxL := 1) (ret := (some .int)) (by decide) rfl ?_
  intro p e s m args below meth c s₁ B hml hv
  obtain ⟨rfl, hsz, hP, hK, hD0, hE⟩ := hv
  have hx := B.exec
  have hb := B.bytes
  have hr := B.returns
  have hts := atoms_spec (ws := w_Primitives_read) B.pre
  have hT : ∀ w ∈ TB, w.before _ s = true := fun w h => hts w (List.mem_cons_of_mem _ h)
  have hown : s.vm.findClass "ColonMachine$Primitives" = some m.cls := findClass_of_methodNamed B.named
  have hlocks := B.notSynchronized
  subst hsz
  have hD := hD0.self (sz := s.heap.size)
  generalize hAe : va_A [(pp, .inr (6, [.ref dd, .ref rr, .ref kc, .ref mm, .ref oo, .ref tt, .ref ww])), (dd, .inr (1, [.ref da, .int dn])), (da, .inl (cI, 64, .inl df)), (mm, .inr (4, [.ref ma, .ref mb, .int he])), (ma, .inl (cI, 1000, .inl fc)), (mb, .inl (cI, 600, .inl fb))] s.heap.size = A at hD hE ⊢
  have hA : ∀ q : Nat, s.heap.size ≤ q → A q := fun q h => by rw [← hAe]; exact Or.inr h
  have hS : va_S A s.heap s.heap [] := va_S.rf
  have hl := lv_entry [.ref pp] (n := 1) (Nat.le_of_ble_eq_true rfl)
  rw [lg_entry_eq]
  generalize (lg_sl [.ref pp] ++ List.replicate (1 - (lg_sl [.ref pp]).length) Slot.unset).toArray = ls at hl ⊢
  have hl : lv_has ls 1 [(0, .ref pp)] := hl
  have hF := F_Prim_read_e dn df he fc fb
  refine lv_aload_n hx hb d_Primitives_read_0 rfl (lv_at hl 0 rfl) ?_
  refine va_get (D := D) (v := .ref mm) (C := "ColonMachine$Primitives") (T := T_Primitives) (N := 7) hx hb hT i_Primitives hown hK hP 0 rfl rfl 3 (by decide) (hT _ fl_Primitives_22) (fun _ h9 => h9) rfl d_Primitives_read_1 ?_
  refine lv_aload_n hx hb d_Primitives_read_4 rfl (lv_at hl 0 rfl) ?_
  refine va_get (D := D) (v := .ref dd) (C := "ColonMachine$Primitives") (T := T_Primitives) (N := 7) hx hb hT i_Primitives hown hK hP 0 rfl rfl 0 (by decide) (hT _ fl_Primitives_9) (fun _ h9 => h9) rfl d_Primitives_read_5 ?_
  refine lv_iconst (v := 0) hx hb d_Primitives_read_8 (by decide) ?_
  refine kN_pi (wr := [(pp, .inr (6, [.ref dd, .ref rr, .ref kc, .ref mm, .ref oo, .ref tt, .ref ww])), (mm, .inr (4, [.ref ma, .ref mb, .int he])), (ma, .inl (cI, 1000, .inl fc)), (mb, .inl (cI, 600, .inl fb))]) (zV (wc := [(dd, .inr (1, [.ref da, .int dn])), (da, .inl (cI, 64, .inl df))]) (As := [.int 0]) (rest := [.ref mm]) (st0 := [.int 0, .ref dd, .ref mm]) ⟨hx, hb, hml, hown, hT⟩ (c_Cells_at l D cI cJ cZ cW cT s.heap.size dd da 64 dn df 0 hid) (cwV 1 hT (tbV ml_Primitives_116 im_Cells_at se_Cells_at in_Cells co_Cells_at) rfl rfl rfl v_Cells_at ⟨Nat.le_of_ble_eq_true rfl, Nat.le_of_ble_eq_true rfl⟩) hK hE hP hD hS hA [1, 2] rfl rfl 0 rfl rfl rfl hl.1 rfl (Nat.le_of_ble_eq_true rfl) d_Primitives_read_9 ⟨Nat.le_of_ble_eq_true rfl, Nat.le_of_ble_eq_true rfl⟩) hP hD hS hA [1, 2] [0, 3, 4, 5] rfl rfl rfl (by decide) [0, 4, 5, 1, 2, 3] rfl rfl (fun q1 H locs e1 k1 hP hD hS => ?_)
  have hP : va_P D classes [(pp, .inr (6, [.ref dd, .ref rr, .ref kc, .ref mm, .ref oo, .ref tt, .ref ww])), (dd, .inr (1, [.ref da, .int dn])), (da, .inl (cI, 64, .inl df)), (mm, .inr (4, [.ref ma, .ref mb, .int he])), (ma, .inl (cI, 1000, .inl fc)), (mb, .inl (cI, 600, .inl fb))] H := hP
  have hD : va_D A [(pp, .inr (6, [.ref dd, .ref rr, .ref kc, .ref mm, .ref oo, .ref tt, .ref ww])), (dd, .inr (1, [.ref da, .int dn])), (da, .inl (cI, 64, .inl df)), (mm, .inr (4, [.ref ma, .ref mb, .int he])), (ma, .inl (cI, 1000, .inl fc)), (mb, .inl (cI, 600, .inl fb))] := hD
  have hF := hF.trans (bd_e e1)
  refine kN_pi (wr := [(pp, .inr (6, [.ref dd, .ref rr, .ref kc, .ref mm, .ref oo, .ref tt, .ref ww])), (dd, .inr (1, [.ref da, .int dn])), (da, .inl (cI, 64, .inl df)), (ma, .inl (cI, 1000, .inl fc))]) (zV (wc := [(mm, .inr (4, [.ref ma, .ref mb, .int he])), (mb, .inl (cI, 600, .inl fb))]) (As := [.int q1]) (rest := []) (st0 := [.int q1, .ref mm]) ⟨hx, hb, hml, hown, hT⟩ (c_Memory_isValid l D cI cJ cZ cW cT H.size mm ma mb he fb q1 him) (cwV 1 hT (tbV ml_Primitives_210 im_Memory_isValid se_Memory_isValid in_Memory co_Memory_isValid) rfl rfl rfl v_Memory_isValid ⟨Nat.le_of_ble_eq_true rfl, Nat.le_of_ble_eq_true rfl⟩) hK hE hP hD hS hA [3, 5] rfl rfl 0 rfl rfl rfl hl.1 rfl (Nat.le_of_ble_eq_true rfl) d_Primitives_read_12 ⟨Nat.le_of_ble_eq_true rfl, Nat.le_of_ble_eq_true rfl⟩) hP hD hS hA [3, 5] [0, 1, 2, 4] rfl rfl rfl (by decide) [0, 1, 2, 4, 3, 5] rfl rfl (fun q2 H locs e2 k2 hP hD hS => ?_)
  have hP : va_P D classes [(pp, .inr (6, [.ref dd, .ref rr, .ref kc, .ref mm, .ref oo, .ref tt, .ref ww])), (dd, .inr (1, [.ref da, .int dn])), (da, .inl (cI, 64, .inl df)), (mm, .inr (4, [.ref ma, .ref mb, .int he])), (ma, .inl (cI, 1000, .inl fc)), (mb, .inl (cI, 600, .inl fb))] H := hP
  have hD : va_D A [(pp, .inr (6, [.ref dd, .ref rr, .ref kc, .ref mm, .ref oo, .ref tt, .ref ww])), (dd, .inr (1, [.ref da, .int dn])), (da, .inl (cI, 64, .inl df)), (mm, .inr (4, [.ref ma, .ref mb, .int he])), (ma, .inl (cI, 1000, .inl fc)), (mb, .inl (cI, 600, .inl fb))] := hD
  have hF := hF.trans (bd_e e2)
  refine lv_if_ne (tgt := 21) hx hb d_Primitives_read_15 (by decide) (fun c3 => ?_) (fun c3 => ?_)
  · have hF := hF.trans (if_neg c3)
    refine lv_aload_n hx hb d_Primitives_read_21 rfl (lv_at hl 0 rfl) ?_
    refine va_get (D := D) (v := .ref dd) (C := "ColonMachine$Primitives") (T := T_Primitives) (N := 7) hx hb hT i_Primitives hown hK hP 0 rfl rfl 0 (by decide) (hT _ fl_Primitives_9) (fun _ h9 => h9) rfl d_Primitives_read_22 ?_
    refine lv_iconst (v := 0) hx hb d_Primitives_read_25 (by decide) ?_
    refine lv_aload_n hx hb d_Primitives_read_26 rfl (lv_at hl 0 rfl) ?_
    refine va_get (D := D) (v := .ref mm) (C := "ColonMachine$Primitives") (T := T_Primitives) (N := 7) hx hb hT i_Primitives hown hK hP 0 rfl rfl 3 (by decide) (hT _ fl_Primitives_22) (fun _ h9 => h9) rfl d_Primitives_read_27 ?_
    refine lv_aload_n hx hb d_Primitives_read_30 rfl (lv_at hl 0 rfl) ?_
    refine va_get (D := D) (v := .ref dd) (C := "ColonMachine$Primitives") (T := T_Primitives) (N := 7) hx hb hT i_Primitives hown hK hP 0 rfl rfl 0 (by decide) (hT _ fl_Primitives_9) (fun _ h9 => h9) rfl d_Primitives_read_31 ?_
    refine lv_iconst (v := 0) hx hb d_Primitives_read_34 (by decide) ?_
    refine kN_pi (wr := [(pp, .inr (6, [.ref dd, .ref rr, .ref kc, .ref mm, .ref oo, .ref tt, .ref ww])), (mm, .inr (4, [.ref ma, .ref mb, .int he])), (ma, .inl (cI, 1000, .inl fc)), (mb, .inl (cI, 600, .inl fb))]) (zV (wc := [(dd, .inr (1, [.ref da, .int dn])), (da, .inl (cI, 64, .inl df))]) (As := [.int 0]) (rest := [.ref mm, .int 0, .ref dd]) (st0 := [.int 0, .ref dd, .ref mm, .int 0, .ref dd]) ⟨hx, hb, hml, hown, hT⟩ (c_Cells_at l D cI cJ cZ cW cT H.size dd da 64 dn df 0 hid) (cwV 1 hT (tbV ml_Primitives_116 im_Cells_at se_Cells_at in_Cells co_Cells_at) rfl rfl rfl v_Cells_at ⟨Nat.le_of_ble_eq_true rfl, Nat.le_of_ble_eq_true rfl⟩) hK hE hP hD hS hA [1, 2] rfl rfl 0 rfl rfl rfl hl.1 rfl (Nat.le_of_ble_eq_true rfl) d_Primitives_read_35 ⟨Nat.le_of_ble_eq_true rfl, Nat.le_of_ble_eq_true rfl⟩) hP hD hS hA [1, 2] [0, 3, 4, 5] rfl rfl rfl (by decide) [0, 4, 5, 1, 2, 3] rfl rfl (fun q4 H locs e4 k4 hP hD hS => ?_)
    have hP : va_P D classes [(pp, .inr (6, [.ref dd, .ref rr, .ref kc, .ref mm, .ref oo, .ref tt, .ref ww])), (dd, .inr (1, [.ref da, .int dn])), (da, .inl (cI, 64, .inl df)), (mm, .inr (4, [.ref ma, .ref mb, .int he])), (ma, .inl (cI, 1000, .inl fc)), (mb, .inl (cI, 600, .inl fb))] H := hP
    have hD : va_D A [(pp, .inr (6, [.ref dd, .ref rr, .ref kc, .ref mm, .ref oo, .ref tt, .ref ww])), (dd, .inr (1, [.ref da, .int dn])), (da, .inl (cI, 64, .inl df)), (mm, .inr (4, [.ref ma, .ref mb, .int he])), (ma, .inl (cI, 1000, .inl fc)), (mb, .inl (cI, 600, .inl fb))] := hD
    have hF := hF.trans (bd_e e4)
    refine kN_pi (wr := [(pp, .inr (6, [.ref dd, .ref rr, .ref kc, .ref mm, .ref oo, .ref tt, .ref ww])), (dd, .inr (1, [.ref da, .int dn])), (da, .inl (cI, 64, .inl df)), (mb, .inl (cI, 600, .inl fb))]) (zV (wc := [(mm, .inr (4, [.ref ma, .ref mb, .int he])), (ma, .inl (cI, 1000, .inl fc))]) (As := [.int q4]) (rest := [.int 0, .ref dd]) (st0 := [.int q4, .ref mm, .int 0, .ref dd]) ⟨hx, hb, hml, hown, hT⟩ (c_Memory_read l D cI cJ cZ cW cT H.size mm ma mb he fc q4 him) (cwV 1 hT (tbV ml_Primitives_197 im_Memory_read se_Memory_read in_Memory co_Memory_read) rfl rfl rfl v_Memory_read ⟨Nat.le_of_ble_eq_true rfl, Nat.le_of_ble_eq_true rfl⟩) hK hE hP hD hS hA [3, 4] rfl rfl 0 rfl rfl rfl hl.1 rfl (Nat.le_of_ble_eq_true rfl) d_Primitives_read_38 ⟨Nat.le_of_ble_eq_true rfl, Nat.le_of_ble_eq_true rfl⟩) hP hD hS hA [3, 4] [0, 1, 2, 5] rfl rfl rfl (by decide) [0, 1, 2, 4, 5, 3] rfl rfl (fun q5 H locs e5 k5 hP hD hS => ?_)
    have hP : va_P D classes [(pp, .inr (6, [.ref dd, .ref rr, .ref kc, .ref mm, .ref oo, .ref tt, .ref ww])), (dd, .inr (1, [.ref da, .int dn])), (da, .inl (cI, 64, .inl df)), (mm, .inr (4, [.ref ma, .ref mb, .int he])), (ma, .inl (cI, 1000, .inl fc)), (mb, .inl (cI, 600, .inl fb))] H := hP
    have hD : va_D A [(pp, .inr (6, [.ref dd, .ref rr, .ref kc, .ref mm, .ref oo, .ref tt, .ref ww])), (dd, .inr (1, [.ref da, .int dn])), (da, .inl (cI, 64, .inl df)), (mm, .inr (4, [.ref ma, .ref mb, .int he])), (ma, .inl (cI, 1000, .inl fc)), (mb, .inl (cI, 600, .inl fb))] := hD
    have hF := hF.trans (bd_e e5)
    refine kN_sv (wr := [(pp, .inr (6, [.ref dd, .ref rr, .ref kc, .ref mm, .ref oo, .ref tt, .ref ww])), (mm, .inr (4, [.ref ma, .ref mb, .int he])), (ma, .inl (cI, 1000, .inl fc)), (mb, .inl (cI, 600, .inl fb))]) (fun u : (Nat → Int32) => [(pp, .inr (6, [.ref dd, .ref rr, .ref kc, .ref mm, .ref oo, .ref tt, .ref ww])), (dd, .inr (1, [.ref da, .int dn])), (da, .inl (cI, 64, .inl u)), (mm, .inr (4, [.ref ma, .ref mb, .int he])), (ma, .inl (cI, 1000, .inl fc)), (mb, .inl (cI, 600, .inl fb))]) (zV (wc := [(dd, .inr (1, [.ref da, .int dn])), (da, .inl (cI, 64, .inl df))]) (As := [.int 0, .int q5]) (rest := []) (st0 := [.int q5, .int 0, .ref dd]) ⟨hx, hb, hml, hown, hT⟩ (c_Cells_set l D cI cJ cZ cW cT H.size dd da 64 dn df 0 q5 hid) (cwV 2 hT (tbV ml_Primitives_152 im_Cells_set se_Cells_set in_Cells co_Cells_set) rfl rfl rfl v_Cells_set ⟨Nat.le_of_ble_eq_true rfl, Nat.le_of_ble_eq_true rfl⟩) hK hE hP hD hS hA [1, 2] rfl rfl 0 rfl rfl rfl hl.1 rfl (Nat.le_of_ble_eq_true rfl) d_Primitives_read_41 ⟨Nat.le_of_ble_eq_true rfl, Nat.le_of_ble_eq_true rfl⟩) hP hD hS hA [1, 2] [0, 3, 4, 5] rfl rfl rfl (by decide) [0, 4, 5, 1, 2, 3] rfl (fun u => rfl) (fun q6 H locs e6 k6 hP hD hS => ?_)
    have hP : va_P D classes [(pp, .inr (6, [.ref dd, .ref rr, .ref kc, .ref mm, .ref oo, .ref tt, .ref ww])), (dd, .inr (1, [.ref da, .int dn])), (da, .inl (cI, 64, .inl q6)), (mm, .inr (4, [.ref ma, .ref mb, .int he])), (ma, .inl (cI, 1000, .inl fc)), (mb, .inl (cI, 600, .inl fb))] H := hP
    have hD : va_D A [(pp, .inr (6, [.ref dd, .ref rr, .ref kc, .ref mm, .ref oo, .ref tt, .ref ww])), (dd, .inr (1, [.ref da, .int dn])), (da, .inl (cI, 64, .inl q6)), (mm, .inr (4, [.ref ma, .ref mb, .int he])), (ma, .inl (cI, 1000, .inl fc)), (mb, .inl (cI, 600, .inl fb))] := hD
    have hF := hF.trans (bd_e e6)
    refine lv_iconst (v := 0) hx hb d_Primitives_read_44 (by decide) ?_
    exact W.iret (v := 0) hx hb hr (fun t ht hW => ⟨⟨_, _, rfl, ⟨hF.symm, trivial⟩, ⟨by rw [ht]; exact hP, va_K.moved hW.alike hK, hD⟩⟩, hS.F ht⟩) hS.2.2 d_Primitives_read_45
  · have hF := hF.trans (if_pos c3)
    refine lv_bipush (v := (-9)) hx hb d_Primitives_read_18 (by decide) ?_
    exact W.iret (v := (-9)) hx hb hr (fun t ht hW => ⟨⟨_, _, rfl, ⟨hF.symm, trivial⟩, ⟨by rw [ht]; exact hP, va_K.moved hW.alike hK, hD⟩⟩, hS.F ht⟩) hS.2.2 d_Primitives_read_20
/-- the picture of ColonMachine$Primitives.write -/
def F_Prim_write (dn : Int32) (df : Nat → Int32) (he : Int32) (fc : Nat → Int32) (fb : Nat → Int32) (x1 : Int32) : Int32 × Int32 × (Nat → Int32) := bd (F_Cells_at dn df 0) (fun q1 => bd (F_Memory_isValid he fb q1) (fun q2 => if q2 = 0 then ((-9), (dn, fc)) else (bd (F_Cells_take dn df) (fun q4 => bd (F_Cells_take q4.2 df) (fun q5 => bd (F_Memory_write fc q4.1 (q5.1 + x1)) (fun q6 => (0, (q5.2, q6))))))))
theorem F_Prim_write_e (dn : Int32) (df : Nat → Int32) (he : Int32) (fc : Nat → Int32) (fb : Nat → Int32) (x1 : Int32) : F_Prim_write dn df he fc fb x1 = bd (F_Cells_at dn df 0) (fun q1 => bd (F_Memory_isValid he fb q1) (fun q2 => if q2 = 0 then ((-9), (dn, fc)) else (bd (F_Cells_take dn df) (fun q4 => bd (F_Cells_take q4.2 df) (fun q5 => bd (F_Memory_write fc q4.1 (q5.1 + x1)) (fun q6 => (0, (q5.2, q6)))))))) := rfl
set_option maxHeartbeats 4000000 in
set_option maxRecDepth 100000 in
theorem c_Prim_write (l : Launch) (D : va_G) (cI cJ cZ cW cT : ClassId) (sz : Nat) (pp : Nat) (dd : Nat) (rr : Nat) (kc : Nat) (mm : Nat) (oo : Nat) (tt : Nat) (ww : Nat) (da : Nat) (ma : Nat) (mb : Nat) (dn : Int32) (df : Nat → Int32) (he : Int32) (fc : Nat → Int32) (fb : Nat → Int32) (x1 : Int32) (hid : CellsOk 64 dn) (him : MemOk he) : Met l y_Primitives_write w_Primitives_write ({ frames := 1, cells := 0, slots := 0, locals := 22 }) (va_Pc [.ref pp, .int x1] (zP D classes (TY cI cJ cZ cW cT) [(pp, .inr (6, [.ref dd, .ref rr, .ref kc, .ref mm, .ref oo, .ref tt, .ref ww])), (dd, .inr (1, [.ref da, .int dn])), (da, .inl (cI, 64, .inl df)), (mm, .inr (4, [.ref ma, .ref mb, .int he])), (ma, .inl (cI, 1000, .inl fc)), (mb, .inl (cI, 600, .inl fb))] sz)) (va_Qi (fun (r : Int32) (u : Int32 × (Nat → Int32)) => (r, u) = F_Prim_write dn df he fc fb x1 ∧ ((CellsOk 64 u.1))) (fun u => zB D classes (TY cI cJ cZ cW cT) (va_A [(pp, .inr (6, [.ref dd, .ref rr, .ref kc, .ref mm, .ref oo, .ref tt, .ref ww])), (dd, .inr (1, [.ref da, .int dn])), (da, .inl (cI, 64, .inl df)), (mm, .inr (4, [.ref ma, .ref mb, .int he])), (ma, .inl (cI, 1000, .inl fc)), (mb, .inl (cI, 600, .inl fb))] sz) [(pp, .inr (6, [.ref dd, .ref rr, .ref kc, .ref mm, .ref oo, .ref tt, .ref ww])), (dd, .inr (1, [.ref da, .int u.1])), (da, .inl (cI, 64, .inl df)), (mm, .inr (4, [.ref ma, .ref mb, .int he])), (ma, .inl (cI, 1000, .inl u.2)), (mb, .inl (cI, 600, .inl fb))]) (va_A [(pp, .inr (6, [.ref dd, .ref rr, .ref kc, .ref mm, .ref oo, .ref tt, .ref ww])), (dd, .inr (1, [.ref da, .int dn])), (da, .inl (cI, 64, .inl df)), (mm, .inr (4, [.ref ma, .ref mb, .int he])), (ma, .inl (cI, 1000, .inl fc)), (mb, .inl (cI, 600, .inl fb))] sz)) 0 0 (va_A [(pp, .inr (6, [.ref dd, .ref rr, .ref kc, .ref mm, .ref oo, .ref tt, .ref ww])), (dd, .inr (1, [.ref da, .int dn])), (da, .inl (cI, 64, .inl df)), (mm, .inr (4, [.ref ma, .ref mb, .int he])), (ma, .inl (cI, 1000, .inl fc)), (mb, .inl (cI, 600, .inl fb))] sz) := by
  refine Met.ofW (cc := b_Primitives_write) (maxL := 3) (ret := (some .int)) (by decide) rfl ?_
  intro p e s m args below meth c s₁ B hml hv
  obtain ⟨rfl, hsz, hP, hK, hD0, hE⟩ := hv
  have hx := B.exec
  have hb := B.bytes
  have hr := B.returns
  have hts := atoms_spec (ws := w_Primitives_write) B.pre
  have hT : ∀ w ∈ TB, w.before _ s = true := fun w h => hts w (List.mem_cons_of_mem _ h)
  have hown : s.vm.findClass "ColonMachine$Primitives" = some m.cls := findClass_of_methodNamed B.named
  have hlocks := B.notSynchronized
  subst hsz
  have hD := hD0.self (sz := s.heap.size)
  generalize hAe : va_A [(pp, .inr (6, [.ref dd, .ref rr, .ref kc, .ref mm, .ref oo, .ref tt, .ref ww])), (dd, .inr (1, [.ref da, .int dn])), (da, .inl (cI, 64, .inl df)), (mm, .inr (4, [.ref ma, .ref mb, .int he])), (ma, .inl (cI, 1000, .inl fc)), (mb, .inl (cI, 600, .inl fb))] s.heap.size = A at hD hE ⊢
  have hA : ∀ q : Nat, s.heap.size ≤ q → A q := fun q h => by rw [← hAe]; exact Or.inr h
  have hS : va_S A s.heap s.heap [] := va_S.rf
  have hl := lv_entry [.ref pp, .int x1] (n := 3) (Nat.le_of_ble_eq_true rfl)
  rw [lg_entry_eq]
  generalize (lg_sl [.ref pp, .int x1] ++ List.replicate (3 - (lg_sl [.ref pp, .int x1]).length) Slot.unset).toArray = ls at hl ⊢
  have hl : lv_has ls 3 [(0, .ref pp), (1, .int x1)] := hl
  have hF := F_Prim_write_e dn df he fc fb x1
  refine lv_aload_n hx hb d_Primitives_write_0 rfl (lv_at hl 0 rfl) ?_
  refine va_get (D := D) (v := .ref mm) (C := "ColonMachine$Primitives") (T := T_Primitives) (N := 7) hx hb hT i_Primitives hown hK hP 0 rfl rfl 3 (by decide) (hT _ fl_Primitives_22) (fun _ h9 => h9) rfl d_Primitives_write_1 ?_
  refine lv_aload_n hx hb d_Primitives_write_4 rfl (lv_at hl 0 rfl) ?_
  refine va_get (D := D) (v := .ref dd) (C := "ColonMachine$Primitives") (T := T_Primitives) (N := 7) hx hb hT i_Primitives hown hK hP 0 rfl rfl 0 (by decide) (hT _ fl_Primitives_9) (fun _ h9 => h9) rfl d_Primitives_write_5 ?_
  refine lv_iconst (v := 0) hx hb d_Primitives_write_8 (by decide) ?_
  refine kN_pi (wr := [(pp, .inr (6, [.ref dd, .ref rr, .ref kc, .ref mm, .ref oo, .ref tt, .ref ww])), (mm, .inr (4, [.ref ma, .ref mb, .int he])), (ma, .inl (cI, 1000, .inl fc)), (mb, .inl (cI, 600, .inl fb))]) (zV (wc := [(dd, .inr (1, [.ref da, .int dn])), (da, .inl (cI, 64, .inl df))]) (As := [.int 0]) (rest := [.ref mm]) (st0 := [.int 0, .ref dd, .ref mm]) ⟨hx, hb, hml, hown, hT⟩ (c_Cells_at l D cI cJ cZ cW cT s.heap.size dd da 64 dn df 0 hid) (cwV 1 hT (tbV ml_Primitives_116 im_Cells_at se_Cells_at in_Cells co_Cells_at) rfl rfl rfl v_Cells_at ⟨Nat.le_of_ble_eq_true rfl, Nat.le_of_ble_eq_true rfl⟩) hK hE hP hD hS hA [1, 2] rfl rfl 0 rfl rfl rfl hl.1 rfl (Nat.le_of_ble_eq_true rfl) d_Primitives_write_9 ⟨Nat.le_of_ble_eq_true rfl, Nat.le_of_ble_eq_true rfl⟩) hP hD hS hA [1, 2] [0, 3, 4, 5] rfl rfl rfl (by decide) [0, 4, 5, 1, 2, 3] rfl rfl (fun q1 H locs e1 k1 hP hD hS => ?_)
  have hP : va_P D classes [(pp, .inr (6, [.ref dd, .ref rr, .ref kc, .ref mm, .ref oo, .ref tt, .ref ww])), (dd, .inr (1, [.ref da, .int dn])), (da, .inl (cI, 64, .inl df)), (mm, .inr (4, [.ref ma, .ref mb, .int he])), (ma, .inl (cI, 1000, .inl fc)), (mb, .inl (cI, 600, .inl fb))] H := hP
  have hD : va_D A [(pp, .inr (6, [.ref dd, .ref rr, .ref kc, .ref mm, .ref oo, .ref tt, .ref ww])), (dd, .inr (1, [.ref da, .int dn])), (da, .inl (cI, 64, .inl df)), (mm, .inr (4, [.ref ma, .ref mb, .int he])), (ma, .inl (cI, 1000, .inl fc)), (mb, .inl (cI, 600, .inl fb))] := hD
  have hF := hF.trans (bd_e e1)
  refine kN_pi (wr := [(pp, .inr (6, [.ref dd, .ref rr, .ref kc, .ref mm, .ref oo, .ref tt, .ref ww])), (dd, .inr (1, [.ref da, .int dn])), (da, .inl (cI, 64, .inl df)), (ma, .inl (cI, 1000, .inl fc))]) (zV (wc := [(mm, .inr (4, [.ref ma, .ref mb, .int he])), (mb, .inl (cI, 600, .inl fb))]) (As := [.int q1]) (rest := []) (st0 := [.int q1, .ref mm]) ⟨hx, hb, hml, hown, hT⟩ (c_Memory_isValid l D cI cJ cZ cW cT H.size mm ma mb he fb q1 him) (cwV 1 hT (tbV ml_Primitives_210 im_Memory_isValid se_Memory_isValid in_Memory co_Memory_isValid) rfl rfl rfl v_Memory_isValid ⟨Nat.le_of_ble_eq_true rfl, Nat.le_of_ble_eq_true rfl⟩) hK hE hP hD hS hA [3, 5] rfl rfl 0 rfl rfl rfl hl.1 rfl (Nat.le_of_ble_eq_true rfl) d_Primitives_write_12 ⟨Nat.le_of_ble_eq_true rfl, Nat.le_of_ble_eq_true rfl⟩) hP hD hS hA [3, 5] [0, 1, 2, 4] rfl rfl rfl (by decide) [0, 1, 2, 4, 3, 5] rfl rfl (fun q2 H locs e2 k2 hP hD hS => ?_)
  have hP : va_P D classes [(pp, .inr (6, [.ref dd, .ref rr, .ref kc, .ref mm, .ref oo, .ref tt, .ref ww])), (dd, .inr (1, [.ref da, .int dn])), (da, .inl (cI, 64, .inl df)), (mm, .inr (4, [.ref ma, .ref mb, .int he])), (ma, .inl (cI, 1000, .inl fc)), (mb, .inl (cI, 600, .inl fb))] H := hP
  have hD : va_D A [(pp, .inr (6, [.ref dd, .ref rr, .ref kc, .ref mm, .ref oo, .ref tt, .ref ww])), (dd, .inr (1, [.ref da, .int dn])), (da, .inl (cI, 64, .inl df)), (mm, .inr (4, [.ref ma, .ref mb, .int he])), (ma, .inl (cI, 1000, .inl fc)), (mb, .inl (cI, 600, .inl fb))] := hD
  have hF := hF.trans (bd_e e2)
  refine lv_if_ne (tgt := 21) hx hb d_Primitives_write_15 (by decide) (fun c3 => ?_) (fun c3 => ?_)
  · have hF := hF.trans (if_neg c3)
    refine lv_aload_n hx hb d_Primitives_write_21 rfl (lv_at hl 0 rfl) ?_
    refine va_get (D := D) (v := .ref dd) (C := "ColonMachine$Primitives") (T := T_Primitives) (N := 7) hx hb hT i_Primitives hown hK hP 0 rfl rfl 0 (by decide) (hT _ fl_Primitives_9) (fun _ h9 => h9) rfl d_Primitives_write_22 ?_
    refine kN_si (wr := [(pp, .inr (6, [.ref dd, .ref rr, .ref kc, .ref mm, .ref oo, .ref tt, .ref ww])), (mm, .inr (4, [.ref ma, .ref mb, .int he])), (ma, .inl (cI, 1000, .inl fc)), (mb, .inl (cI, 600, .inl fb))]) (fun u : Int32 => [(pp, .inr (6, [.ref dd, .ref rr, .ref kc, .ref mm, .ref oo, .ref tt, .ref ww])), (dd, .inr (1, [.ref da, .int u])), (da, .inl (cI, 64, .inl df)), (mm, .inr (4, [.ref ma, .ref mb, .int he])), (ma, .inl (cI, 1000, .inl fc)), (mb, .inl (cI, 600, .inl fb))]) (zV (wc := [(dd, .inr (1, [.ref da, .int dn])), (da, .inl (cI, 64, .inl df))]) (As := []) (rest := []) (st0 := [.ref dd]) ⟨hx, hb, hml, hown, hT⟩ (c_Cells_take l D cI cJ cZ cW cT H.size dd da 64 dn df hid) (cwV 0 hT (tbV ml_Primitives_64 im_Cells_take se_Cells_take in_Cells co_Cells_take) rfl rfl rfl v_Cells_take ⟨Nat.le_of_ble_eq_true rfl, Nat.le_of_ble_eq_true rfl⟩) hK hE hP hD hS hA [1, 2] rfl rfl 0 rfl rfl rfl hl.1 rfl (Nat.le_of_ble_eq_true rfl) d_Primitives_write_25 ⟨Nat.le_of_ble_eq_true rfl, Nat.le_of_ble_eq_true rfl⟩) hP hD hS hA [1, 2] [0, 3, 4, 5] rfl rfl rfl (by decide) [0, 4, 5, 1, 2, 3] rfl (fun u => rfl) (fun q4 H locs e4 k4 hP hD hS => ?_)
    have hP : va_P D classes [(pp, .inr (6, [.ref dd, .ref rr, .ref kc, .ref mm, .ref oo, .ref tt, .ref ww])), (dd, .inr (1, [.ref da, .int q4.2])), (da, .inl (cI, 64, .inl df)), (mm, .inr (4, [.ref ma, .ref mb, .int he])), (ma, .inl (cI, 1000, .inl fc)), (mb, .inl (cI, 600, .inl fb))] H := hP
    have hD : va_D A [(pp, .inr (6, [.ref dd, .ref rr, .ref kc, .ref mm, .ref oo, .ref tt, .ref ww])), (dd, .inr (1, [.ref da, .int q4.2])), (da, .inl (cI, 64, .inl df)), (mm, .inr (4, [.ref ma, .ref mb, .int he])), (ma, .inl (cI, 1000, .inl fc)), (mb, .inl (cI, 600, .inl fb))] := hD
    have hF := hF.trans (bd_e e4)
    refine lv_istore_n (lv' := [(2, .int q4.1), (0, .ref pp), (1, .int x1)]) hx hb d_Primitives_write_28 rfl hl (by decide) rfl (fun ls hl => ?_)
    refine lv_aload_n hx hb d_Primitives_write_29 rfl (lv_at hl 1 rfl) ?_
    refine va_get (D := D) (v := .ref mm) (C := "ColonMachine$Primitives") (T := T_Primitives) (N := 7) hx hb hT i_Primitives hown hK hP 0 rfl rfl 3 (by decide) (hT _ fl_Primitives_22) (fun _ h9 => h9) rfl d_Primitives_write_30 ?_
    refine lv_iload_n hx hb d_Primitives_write_33 rfl (lv_at hl 0 rfl) ?_
    refine lv_aload_n hx hb d_Primitives_write_34 rfl (lv_at hl 1 rfl) ?_
    refine va_get (D := D) (v := .ref dd) (C := "ColonMachine$Primitives") (T := T_Primitives) (N := 7) hx hb hT i_Primitives hown hK hP 0 rfl rfl 0 (by decide) (hT _ fl_Primitives_9) (fun _ h9 => h9) rfl d_Primitives_write_35 ?_
    refine kN_si (wr := [(pp, .inr (6, [.ref dd, .ref rr, .ref kc, .ref mm, .ref oo, .ref tt, .ref ww])), (mm, .inr (4, [.ref ma, .ref mb, .int he])), (ma, .inl (cI, 1000, .inl fc)), (mb, .inl (cI, 600, .inl fb))]) (fun u : Int32 => [(pp, .inr (6, [.ref dd, .ref rr, .ref kc, .ref mm, .ref oo, .ref tt, .ref ww])), (dd, .inr (1, [.ref da, .int u])), (da, .inl (cI, 64, .inl df)), (mm, .inr (4, [.ref ma, .ref mb, .int he])), (ma, .inl (cI, 1000, .inl fc)), (mb, .inl (cI, 600, .inl fb))]) (zV (wc := [(dd, .inr (1, [.ref da, .int q4.2])), (da, .inl (cI, 64, .inl df))]) (As := []) (rest := [.int q4.1, .ref mm]) (st0 := [.ref dd, .int q4.1, .ref mm]) ⟨hx, hb, hml, hown, hT⟩ (c_Cells_take l D cI cJ cZ cW cT H.size dd da 64 q4.2 df k4) (cwV 0 hT (tbV ml_Primitives_64 im_Cells_take se_Cells_take in_Cells co_Cells_take) rfl rfl rfl v_Cells_take ⟨Nat.le_of_ble_eq_true rfl, Nat.le_of_ble_eq_true rfl⟩) hK hE hP hD hS hA [1, 2] rfl rfl 0 rfl rfl rfl hl.1 rfl (Nat.le_of_ble_eq_true rfl) d_Primitives_write_38 ⟨Nat.le_of_ble_eq_true rfl, Nat.le_of_ble_eq_true rfl⟩) hP hD hS hA [1, 2] [0, 3, 4, 5] rfl rfl rfl (by decide) [0, 4, 5, 1, 2, 3] rfl (fun u => rfl) (fun q5 H locs e5 k5 hP hD hS => ?_)
    have hP : va_P D classes [(pp, .inr (6, [.ref dd, .ref rr, .ref kc, .ref mm, .ref oo, .ref tt, .ref ww])), (dd, .inr (1, [.ref da, .int q5.2])), (da, .inl (cI, 64, .inl df)), (mm, .inr (4, [.ref ma, .ref mb, .int he])), (ma, .inl (cI, 1000, .inl fc)), (mb, .inl (cI, 600, .inl fb))] H := hP
    have hD : va_D A [(pp, .inr (6, [.ref dd, .ref rr, .ref kc, .ref mm, .ref oo, .ref tt, .ref ww])), (dd, .inr (1, [.ref da, .int q5.2])), (da, .inl (cI, 64, .inl df)), (mm, .inr (4, [.ref ma, .ref mb, .int he])), (ma, .inl (cI, 1000, .inl fc)), (mb, .inl (cI, 600, .inl fb))] := hD
    have hF := hF.trans (bd_e e5)
    refine lv_iload_n hx hb d_Primitives_write_41 rfl (lv_at hl 2 rfl) ?_
    refine lv_iadd hx hb d_Primitives_write_42 ?_
    refine kN_sv (wr := [(pp, .inr (6, [.ref dd, .ref rr, .ref kc, .ref mm, .ref oo, .ref tt, .ref ww])), (dd, .inr (1, [.ref da, .int q5.2])), (da, .inl (cI, 64, .inl df)), (mb, .inl (cI, 600, .inl fb))]) (fun u : (Nat → Int32) => [(pp, .inr (6, [.ref dd, .ref rr, .ref kc, .ref mm, .ref oo, .ref tt, .ref ww])), (dd, .inr (1, [.ref da, .int q5.2])), (da, .inl (cI, 64, .inl df)), (mm, .inr (4, [.ref ma, .ref mb, .int he])), (ma, .inl (cI, 1000, .inl u)), (mb, .inl (cI, 600, .inl fb))]) (zV (wc := [(mm, .inr (4, [.ref ma, .ref mb, .int he])), (ma, .inl (cI, 1000, .inl fc))]) (As := [.int q4.1, .int (q5.1 + x1)]) (rest := []) (st0 := [.int (q5.1 + x1), .int q4.1, .ref mm]) ⟨hx, hb, hml, hown, hT⟩ (c_Memory_write l D cI cJ cZ cW cT H.size mm ma mb he fc q4.1 (q5.1 + x1) him) (cwV 2 hT (tbV ml_Primitives_213 im_Memory_write se_Memory_write in_Memory co_Memory_write) rfl rfl rfl v_Memory_write ⟨Nat.le_of_ble_eq_true rfl, Nat.le_of_ble_eq_true rfl⟩) hK hE hP hD hS hA [3, 4] rfl rfl 0 rfl rfl rfl hl.1 rfl (Nat.le_of_ble_eq_true rfl) d_Primitives_write_43 ⟨Nat.le_of_ble_eq_true rfl, Nat.le_of_ble_eq_true rfl⟩) hP hD hS hA [3, 4] [0, 1, 2, 5] rfl rfl rfl (by decide) [0, 1, 2, 4, 5, 3] rfl (fun u => rfl) (fun q6 H locs e6 k6 hP hD hS => ?_)
    have hP : va_P D classes [(pp, .inr (6, [.ref dd, .ref rr, .ref kc, .ref mm, .ref oo, .ref tt, .ref ww])), (dd, .inr (1, [.ref da, .int q5.2])), (da, .inl (cI, 64, .inl df)), (mm, .inr (4, [.ref ma, .ref mb, .int he])), (ma, .inl (cI, 1000, .inl q6)), (mb, .inl (cI, 600, .inl fb))] H := hP
    have hD : va_D A [(pp, .inr (6, [.ref dd, .ref rr, .ref kc, .ref mm, .ref oo, .ref tt, .ref ww])), (dd, .inr (1, [.ref da, .int q5.2])), (da, .inl (cI, 64, .inl df)), (mm, .inr (4, [.ref ma, .ref mb, .int he])), (ma, .inl (cI, 1000, .inl q6)), (mb, .inl (cI, 600, .inl fb))] := hD
    have hF := hF.trans (bd_e e6)
    refine lv_iconst (v := 0) hx hb d_Primitives_write_46 (by decide) ?_
    exact W.iret (v := 0) hx hb hr (fun t ht hW => ⟨⟨_, _, rfl, ⟨hF.symm, k5⟩, ⟨by rw [ht]; exact hP, va_K.moved hW.alike hK, hD⟩⟩, hS.F ht⟩) hS.2.2 d_Primitives_write_47
  · have hF := hF.trans (if_pos c3)
    refine lv_bipush (v := (-9)) hx hb d_Primitives_write_18 (by decide) ?_
    exact W.iret (v := (-9)) hx hb hr (fun t ht hW => ⟨⟨_, _, rfl, ⟨hF.symm, hid⟩, ⟨by rw [ht]; exact hP, va_K.moved hW.alike hK, hD⟩⟩, hS.F ht⟩) hS.2.2 d_Primitives_write_20
/-- the picture of ColonMachine$Primitives.comma -/
def F_Prim_comma (dn : Int32) (df : Nat → Int32) (he : Int32) (fc : Nat → Int32) : Int32 × Int32 × Int32 × (Nat → Int32) := bd (F_Memory_isFull he) (fun q1 => if q1 = 0 then (bd (F_Cells_take dn df) (fun q3 => bd (F_Memory_comma he fc q3.1) (fun q4 => (0, (q3.2, q4.1, q4.2))))) else ((-8), (dn, he, fc)))
theorem F_Prim_comma_e (dn : Int32) (df : Nat → Int32) (he : Int32) (fc : Nat → Int32) : F_Prim_comma dn df he fc = bd (F_Memory_isFull he) (fun q1 => if q1 = 0 then (bd (F_Cells_take dn df) (fun q3 => bd (F_Memory_comma he fc q3.1) (fun q4 => (0, (q3.2, q4.1, q4.2))))) else ((-8), (dn, he, fc))) := rfl
set_option maxHeartbeats 4000000 in
set_option maxRecDepth 100000 in
theorem c_Prim_comma (l : Launch) (D : va_G) (cI cJ cZ cW cT : ClassId) (sz : Nat) (pp : Nat) (dd : Nat) (rr : Nat) (kc : Nat) (mm : Nat) (oo : Nat) (tt : Nat) (ww : Nat) (da : Nat) (ma : Nat) (mb : Nat) (dn : Int32) (df : Nat → Int32) (he : Int32) (fc : Nat → Int32) (hid : CellsOk 64 dn) (him : MemOk he) : Met l y_Primitives_comma w_Primitives_comma ({ frames := 1, cells := 0, slots := 0, locals := 21 }) (va_Pc [.ref pp] (zP D classes (TY cI cJ cZ cW cT) [(pp, .inr (6, [.ref dd, .ref rr, .ref kc, .ref mm, .ref oo, .ref tt, .ref ww])), (dd, .inr (1, [.ref da, .int dn])), (da, .inl (cI, 64, .inl df)), (mm, .inr (4, [.ref ma, .ref mb, .int he])), (ma, .inl (cI, 1000, .inl fc))] sz)) (va_Qi (fun (r : Int32) (u : Int32 × Int32 × (Nat → Int32)) => (r, u) = F_Prim_comma dn df he fc ∧ ((CellsOk 64 u.1) ∧ (MemOk u.2.1))) (fun u => zB D classes (TY cI cJ cZ cW cT) (va_A [(pp, .inr (6, [.ref dd, .ref rr, .ref kc, .ref mm, .ref oo, .ref tt, .ref ww])), (dd, .inr (1, [.ref da, .int dn])), (da, .inl (cI, 64, .inl df)), (mm, .inr (4, [.ref ma, .ref mb, .int he])), (ma, .inl (cI, 1000, .inl fc))] sz) [(pp, .inr (6, [.ref dd, .ref rr, .ref kc, .ref mm, .ref oo, .ref tt, .ref ww])), (dd, .inr (1, [.ref da, .int u.1])), (da, .inl (cI, 64, .inl df)), (mm, .inr (4, [.ref ma, .ref mb, .int u.2.1])), (ma, .inl (cI, 1000, .inl u.2.2))]) (va_A [(pp, .inr (6, [.ref dd, .ref rr, .ref kc, .ref mm, .ref oo, .ref tt, .ref ww])), (dd, .inr (1, [.ref da, .int dn])), (da, .inl (cI, 64, .inl df)), (mm, .inr (4, [.ref ma, .ref mb, .int he])), (ma, .inl (cI, 1000, .inl fc))] sz)) 0 0 (va_A [(pp, .inr (6, [.ref dd, .ref rr, .ref kc, .ref mm, .ref oo, .ref tt, .ref ww])), (dd, .inr (1, [.ref da, .int dn])), (da, .inl (cI, 64, .inl df)), (mm, .inr (4, [.ref ma, .ref mb, .int he])), (ma, .inl (cI, 1000, .inl fc))] sz) := by
  refine Met.ofW (cc := b_Primitives_comma) (maxL := 1) (ret := (some .int)) (by decide) rfl ?_
  intro p e s m args below meth c s₁ B hml hv
  obtain ⟨rfl, hsz, hP, hK, hD0, hE⟩ := hv
  have hx := B.exec
  have hb := B.bytes
  have hr := B.returns
  have hts := atoms_spec (ws := w_Primitives_comma) B.pre
  have hT : ∀ w ∈ TB, w.before _ s = true := fun w h => hts w (List.mem_cons_of_mem _ h)
  have hown : s.vm.findClass "ColonMachine$Primitives" = some m.cls := findClass_of_methodNamed B.named
  have hlocks := B.notSynchronized
  subst hsz
  have hD := hD0.self (sz := s.heap.size)
  generalize hAe : va_A [(pp, .inr (6, [.ref dd, .ref rr, .ref kc, .ref mm, .ref oo, .ref tt, .ref ww])), (dd, .inr (1, [.ref da, .int dn])), (da, .inl (cI, 64, .inl df)), (mm, .inr (4, [.ref ma, .ref mb, .int he])), (ma, .inl (cI, 1000, .inl fc))] s.heap.size = A at hD hE ⊢
  have hA : ∀ q : Nat, s.heap.size ≤ q → A q := fun q h => by rw [← hAe]; exact Or.inr h
  have hS : va_S A s.heap s.heap [] := va_S.rf
  have hl := lv_entry [.ref pp] (n := 1) (Nat.le_of_ble_eq_true rfl)
  rw [lg_entry_eq]
  generalize (lg_sl [.ref pp] ++ List.replicate (1 - (lg_sl [.ref pp]).length) Slot.unset).toArray = ls at hl ⊢
  have hl : lv_has ls 1 [(0, .ref pp)] := hl
  have hF := F_Prim_comma_e dn df he fc
  refine lv_aload_n hx hb d_Primitives_comma_0 rfl (lv_at hl 0 rfl) ?_
  refine va_get (D := D) (v := .ref mm) (C := "ColonMachine$Primitives") (T := T_Primitives) (N := 7) hx hb hT i_Primitives hown hK hP 0 rfl rfl 3 (by decide) (hT _ fl_Primitives_22) (fun _ h9 => h9) rfl d_Primitives_comma_1 ?_
  refine kN_pi (wr := [(pp, .inr (6, [.ref dd, .ref rr, .ref kc, .ref mm, .ref oo, .ref tt, .ref ww])), (dd, .inr (1, [.ref da, .int dn])), (da, .inl (cI, 64, .inl df)), (ma, .inl (cI, 1000, .inl fc))]) (zV (wc := [(mm, .inr (4, [.ref ma, .ref mb, .int he]))]) (As := []) (rest := []) (st0 := [.ref mm]) ⟨hx, hb, hml, hown, hT⟩ (c_Memory_isFull l D cI cJ cZ cW cT s.heap.size mm ma mb he him) (cwV 0 hT (tbV ml_Primitives_215 im_Memory_isFull se_Memory_isFull in_Memory co_Memory_isFull) rfl rfl rfl v_Memory_isFull ⟨Nat.le_of_ble_eq_true rfl, Nat.le_of_ble_eq_true rfl⟩) hK hE hP hD hS hA [3] rfl rfl 0 rfl rfl rfl hl.1 rfl (Nat.le_of_ble_eq_true rfl) d_Primitives_comma_4 ⟨Nat.le_of_ble_eq_true rfl, Nat.le_of_ble_eq_true rfl⟩) hP hD hS hA [3] [0, 1, 2, 4] rfl rfl rfl (by decide) [0, 1, 2, 4, 3] rfl rfl (fun q1 H locs e1 k1 hP hD hS => ?_)
  have hP : va_P D classes [(pp, .inr (6, [.ref dd, .ref rr, .ref kc, .ref mm, .ref oo, .ref tt, .ref ww])), (dd, .inr (1, [.ref da, .int dn])), (da, .inl (cI, 64, .inl df)), (mm, .inr (4, [.ref ma, .ref mb, .int he])), (ma, .inl (cI, 1000, .inl fc))] H := hP
  have hD : va_D A [(pp, .inr (6, [.ref dd, .ref rr, .ref kc, .ref mm, .ref oo, .ref tt, .ref ww])), (dd, .inr (1, [.ref da, .int dn])), (da, .inl (cI, 64, .inl df)), (mm, .inr (4, [.ref ma, .ref mb, .int he])), (ma, .inl (cI, 1000, .inl fc))] := hD
  have hF := hF.trans (bd_e e1)
  refine lv_if_eq (tgt := 13) hx hb d_Primitives_comma_7 (by decide) (fun c2 => ?_) (fun c2 => ?_)
  · have hF := hF.trans (if_pos c2)
    refine lv_aload_n hx hb d_Primitives_comma_13 rfl (lv_at hl 0 rfl) ?_
    refine va_get (D := D) (v := .ref mm) (C := "ColonMachine$Primitives") (T := T_Primitives) (N := 7) hx hb hT i_Primitives hown hK hP 0 rfl rfl 3 (by decide) (hT _ fl_Primitives_22) (fun _ h9 => h9) rfl d_Primitives_comma_14 ?_
    refine lv_aload_n hx hb d_Primitives_comma_17 rfl (lv_at hl 0 rfl) ?_
    refine va_get (D := D) (v := .ref dd) (C := "ColonMachine$Primitives") (T := T_Primitives) (N := 7) hx hb hT i_Primitives hown hK hP 0 rfl rfl 0 (by decide) (hT _ fl_Primitives_9) (fun _ h9 => h9) rfl d_Primitives_comma_18 ?_
    refine kN_si (wr := [(pp, .inr (6, [.ref dd, .ref rr, .ref kc, .ref mm, .ref oo, .ref tt, .ref ww])), (mm, .inr (4, [.ref ma, .ref mb, .int he])), (ma, .inl (cI, 1000, .inl fc))]) (fun u : Int32 => [(pp, .inr (6, [.ref dd, .ref rr, .ref kc, .ref mm, .ref oo, .ref tt, .ref ww])), (dd, .inr (1, [.ref da, .int u])), (da, .inl (cI, 64, .inl df)), (mm, .inr (4, [.ref ma, .ref mb, .int he])), (ma, .inl (cI, 1000, .inl fc))]) (zV (wc := [(dd, .inr (1, [.ref da, .int dn])), (da, .inl (cI, 64, .inl df))]) (As := []) (rest := [.ref mm]) (st0 := [.ref dd, .ref mm]) ⟨hx, hb, hml, hown, hT⟩ (c_Cells_take l D cI cJ cZ cW cT H.size dd da 64 dn df hid) (cwV 0 hT (tbV ml_Primitives_64 im_Cells_take se_Cells_take in_Cells co_Cells_take) rfl rfl rfl v_Cells_take ⟨Nat.le_of_ble_eq_true rfl, Nat.le_of_ble_eq_true rfl⟩) hK hE hP hD hS hA [1, 2] rfl rfl 0 rfl rfl rfl hl.1 rfl (Nat.le_of_ble_eq_true rfl) d_Primitives_comma_21 ⟨Nat.le_of_ble_eq_true rfl, Nat.le_of_ble_eq_true rfl⟩) hP hD hS hA [1, 2] [0, 3, 4] rfl rfl rfl (by decide) [0, 3, 4, 1, 2] rfl (fun u => rfl) (fun q3 H locs e3 k3 hP hD hS => ?_)
    have hP : va_P D classes [(pp, .inr (6, [.ref dd, .ref rr, .ref kc, .ref mm, .ref oo, .ref tt, .ref ww])), (dd, .inr (1, [.ref da, .int q3.2])), (da, .inl (cI, 64, .inl df)), (mm, .inr (4, [.ref ma, .ref mb, .int he])), (ma, .inl (cI, 1000, .inl fc))] H := hP
    have hD : va_D A [(pp, .inr (6, [.ref dd, .ref rr, .ref kc, .ref mm, .ref oo, .ref tt, .ref ww])), (dd, .inr (1, [.ref da, .int q3.2])), (da, .inl (cI, 64, .inl df)), (mm, .inr (4, [.ref ma, .ref mb, .int he])), (ma, .inl (cI, 1000, .inl fc))] := hD
    have hF := hF.trans (bd_e e3)
    refine kN_sv (wr := [(pp, .inr (6, [.ref dd, .ref rr, .ref kc, .ref mm, .ref oo, .ref tt, .ref ww])), (dd, .inr (1, [.ref da, .int q3.2])), (da, .inl (cI, 64, .inl df))]) (fun u : Int32 × (Nat → Int32) => [(pp, .inr (6, [.ref dd, .ref rr, .ref kc, .ref mm, .ref oo, .ref tt, .ref ww])), (dd, .inr (1, [.ref da, .int q3.2])), (da, .inl (cI, 64, .inl df)), (mm, .inr (4, [.ref ma, .ref mb, .int u.1])), (ma, .inl (cI, 1000, .inl u.2))]) (zV (wc := [(mm, .inr (4, [.ref ma, .ref mb, .int he])), (ma, .inl (cI, 1000, .inl fc))]) (As := [.int q3.1]) (rest := []) (st0 := [.int q3.1, .ref mm]) ⟨hx, hb, hml, hown, hT⟩ (c_Memory_comma l D cI cJ cZ cW cT H.size mm ma mb he fc q3.1 him) (cwV 1 hT (tbV ml_Primitives_218 im_Memory_comma se_Memory_comma in_Memory co_Memory_comma) rfl rfl rfl v_Memory_comma ⟨Nat.le_of_ble_eq_true rfl, Nat.le_of_ble_eq_true rfl⟩) hK hE hP hD hS hA [3, 4] rfl rfl 0 rfl rfl rfl hl.1 rfl (Nat.le_of_ble_eq_true rfl) d_Primitives_comma_24 ⟨Nat.le_of_ble_eq_true rfl, Nat.le_of_ble_eq_true rfl⟩) hP hD hS hA [3, 4] [0, 1, 2] rfl rfl rfl (by decide) [0, 1, 2, 3, 4] rfl (fun u => rfl) (fun q4 H locs e4 k4 hP hD hS => ?_)
    have hP : va_P D classes [(pp, .inr (6, [.ref dd, .ref rr, .ref kc, .ref mm, .ref oo, .ref tt, .ref ww])), (dd, .inr (1, [.ref da, .int q3.2])), (da, .inl (cI, 64, .inl df)), (mm, .inr (4, [.ref ma, .ref mb, .int q4.1])), (ma, .inl (cI, 1000, .inl q4.2))] H := hP
    have hD : va_D A [(pp, .inr (6, [.ref dd, .ref rr, .ref kc, .ref mm, .ref oo, .ref tt, .ref ww])), (dd, .inr (1, [.ref da, .int q3.2])), (da, .inl (cI, 64, .inl df)), (mm, .inr (4, [.ref ma, .ref mb, .int q4.1])), (ma, .inl (cI, 1000, .inl q4.2))] := hD
    have hF := hF.trans (bd_e e4)
    refine lv_iconst (v := 0) hx hb d_Primitives_comma_27 (by decide) ?_
    exact W.iret (v := 0) hx hb hr (fun t ht hW => ⟨⟨_, _, rfl, ⟨hF.symm, ⟨k3, k4⟩⟩, ⟨by rw [ht]; exact hP, va_K.moved hW.alike hK, hD⟩⟩, hS.F ht⟩) hS.2.2 d_Primitives_comma_28
  · have hF := hF.trans (if_neg c2)
    refine lv_bipush (v := (-8)) hx hb d_Primitives_comma_10 (by decide) ?_
    exact W.iret (v := (-8)) hx hb hr (fun t ht hW => ⟨⟨_, _, rfl, ⟨hF.symm, ⟨hid, him⟩⟩, ⟨by rw [ht]; exact hP, va_K.moved hW.alike hK, hD⟩⟩, hS.F ht⟩) hS.2.2 d_Primitives_comma_12
/-- the picture of ColonMachine$Primitives.said -/
def F_Prim_said (fc : Nat → Int32) (un : Int32) (uf : Nat → Int32) (x1 : Int32) (x2 : Int32) : Int32 × Int32 × (Nat → Int32) := if x1 = 50 then (bd (F_Memory_base fc) (fun q2 => bd (F_Out_saidNumber un uf x2.toInt64 q2) (fun q3 => (q3.1, (q3.2.1, q3.2.2))))) else (if x1 = 51 then (bd (F_Memory_base fc) (fun q5 => bd (F_Out_saidNumber un uf (x2.toInt64 &&& 4294967295) q5) (fun q6 => (q6.1, (q6.2.1, q6.2.2))))) else (if x1 = 52 then (bd (F_Out_saidByte un uf x2) (fun q8 => (q8.1, (q8.2.1, q8.2.2)))) else (if x1 = 53 then (bd (F_Out_saidByte un uf 10) (fun q10 => (q10.1, (q10.2.1, q10.2.2)))) else (bd (F_Out_saidByte un uf 32) (fun q11 => (q11.1, (q11.2.1, q11.2.2)))))))
theorem F_Prim_said_e (fc : Nat → Int32) (un : Int32) (uf : Nat → Int32) (x1 : Int32) (x2 : Int32) : F_Prim_said fc un uf x1 x2 = if x1 = 50 then (bd (F_Memory_base fc) (fun q2 => bd (F_Out_saidNumber un uf x2.toInt64 q2) (fun q3 => (q3.1, (q3.2.1, q3.2.2))))) else (if x1 = 51 then (bd (F_Memory_base fc) (fun q5 => bd (F_Out_saidNumber un uf (x2.toInt64 &&& 4294967295) q5) (fun q6 => (q6.1, (q6.2.1, q6.2.2))))) else (if x1 = 52 then (bd (F_Out_saidByte un uf x2) (fun q8 => (q8.1, (q8.2.1, q8.2.2)))) else (if x1 = 53 then (bd (F_Out_saidByte un uf 10) (fun q10 => (q10.1, (q10.2.1, q10.2.2)))) else (bd (F_Out_saidByte un uf 32) (fun q11 => (q11.1, (q11.2.1, q11.2.2))))))) := rfl
set_option maxHeartbeats 4000000 in
set_option maxRecDepth 100000 in
theorem c_Prim_said (l : Launch) (D : va_G) (cI cJ cZ cW cT : ClassId) (sz : Nat) (pp : Nat) (dd : Nat) (rr : Nat) (kc : Nat) (mm : Nat) (oo : Nat) (tt : Nat) (ww : Nat) (ma : Nat) (mb : Nat) (oa : Nat) (he : Int32) (fc : Nat → Int32) (un : Int32) (uf : Nat → Int32) (x1 : Int32) (x2 : Int32) (him : MemOk he) (hio : OutOk un) : Met l y_Primitives_said w_Primitives_said ({ frames := 2, cells := 0, slots := 0, locals := 54 }) (va_Pc [.ref pp, .int x1, .int x2] (zP D classes (TY cI cJ cZ cW cT) [(pp, .inr (6, [.ref dd, .ref rr, .ref kc, .ref mm, .ref oo, .ref tt, .ref ww])), (mm, .inr (4, [.ref ma, .ref mb, .int he])), (ma, .inl (cI, 1000, .inl fc)), (oo, .inr (5, [.ref oa, .int un])), (oa, .inl (cI, 800, .inl uf))] sz)) (va_Qi (fun (r : Int32) (u : Int32 × (Nat → Int32)) => (r, u) = F_Prim_said fc un uf x1 x2 ∧ ((OutOk u.1))) (fun u => zB D classes (TY cI cJ cZ cW cT) (va_A [(pp, .inr (6, [.ref dd, .ref rr, .ref kc, .ref mm, .ref oo, .ref tt, .ref ww])), (mm, .inr (4, [.ref ma, .ref mb, .int he])), (ma, .inl (cI, 1000, .inl fc)), (oo, .inr (5, [.ref oa, .int un])), (oa, .inl (cI, 800, .inl uf))] sz) [(pp, .inr (6, [.ref dd, .ref rr, .ref kc, .ref mm, .ref oo, .ref tt, .ref ww])), (mm, .inr (4, [.ref ma, .ref mb, .int he])), (ma, .inl (cI, 1000, .inl fc)), (oo, .inr (5, [.ref oa, .int u.1])), (oa, .inl (cI, 800, .inl u.2))]) (va_A [(pp, .inr (6, [.ref dd, .ref rr, .ref kc, .ref mm, .ref oo, .ref tt, .ref ww])), (mm, .inr (4, [.ref ma, .ref mb, .int he])), (ma, .inl (cI, 1000, .inl fc)), (oo, .inr (5, [.ref oa, .int un])), (oa, .inl (cI, 800, .inl uf))] sz)) 0 0 (va_A [(pp, .inr (6, [.ref dd, .ref rr, .ref kc, .ref mm, .ref oo, .ref tt, .ref ww])), (mm, .inr (4, [.ref ma, .ref mb, .int he])), (ma, .inl (cI, 1000, .inl fc)), (oo, .inr (5, [.ref oa, .int un])), (oa, .inl (cI, 800, .inl uf))] sz) := by
  refine Met.ofW (cc := b_Primitives_said) (maxL := 3) (ret := (some .int)) (by decide) rfl ?_
  intro p e s m args below meth c s₁ B hml hv
  obtain ⟨rfl, hsz, hP, hK, hD0, hE⟩ := hv
  have hx := B.exec
  have hb := B.bytes
  have hr := B.returns
  have hts := atoms_spec (ws := w_Primitives_said) B.pre
  have hT : ∀ w ∈ TB, w.before _ s = true := fun w h => hts w (List.mem_cons_of_mem _ h)
  have hown : s.vm.findClass "ColonMachine$Primitives" = some m.cls := findClass_of_methodNamed B.named
  have hlocks := B.notSynchronized
  subst hsz
  have hD := hD0.self (sz := s.heap.size)
  generalize hAe : va_A [(pp, .inr (6, [.ref dd, .ref rr, .ref kc, .ref mm, .ref oo, .ref tt, .ref ww])), (mm, .inr (4, [.ref ma, .ref mb, .int he])), (ma, .inl (cI, 1000, .inl fc)), (oo, .inr (5, [.ref oa, .int un])), (oa, .inl (cI, 800, .inl uf))] s.heap.size = A at hD hE ⊢
  have hA : ∀ q : Nat, s.heap.size ≤ q → A q := fun q h => by rw [← hAe]; exact Or.inr h
  have hS : va_S A s.heap s.heap [] := va_S.rf
  have hl := lv_entry [.ref pp, .int x1, .int x2] (n := 3) (Nat.le_of_ble_eq_true rfl)
  rw [lg_entry_eq]
  generalize (lg_sl [.ref pp, .int x1, .int x2] ++ List.replicate (3 - (lg_sl [.ref pp, .int x1, .int x2]).length) Slot.unset).toArray = ls at hl ⊢
  have hl : lv_has ls 3 [(0, .ref pp), (1, .int x1), (2, .int x2)] := hl
  have hF := F_Prim_said_e fc un uf x1 x2
  refine lv_iload_n hx hb d_Primitives_said_0 rfl (lv_at hl 1 rfl) ?_
  by_cases c1 : x1 = 50
  · have hF := hF.trans (if_pos c1)
    refine lv_tableIn (off := 31) (tgt := 32) hx hb d_Primitives_said_1 (by rw [c1]; decide) (by rw [c1]; decide) (by rw [c1]; decide) (by decide) ?_
    refine lv_aload_n hx hb d_Primitives_said_32 rfl (lv_at hl 0 rfl) ?_
    refine va_get (D := D) (v := .ref oo) (C := "ColonMachine$Primitives") (T := T_Primitives) (N := 7) hx hb hT i_Primitives hown hK hP 0 rfl rfl 4 (by decide) (hT _ fl_Primitives_26) (fun _ h9 => h9) rfl d_Primitives_said_33 ?_
    refine lv_iload_n hx hb d_Primitives_said_36 rfl (lv_at hl 2 rfl) ?_
    refine lv_i2l (v := x2.toInt64) hx hb d_Primitives_said_37 rfl ?_
    refine lv_aload_n hx hb d_Primitives_said_38 rfl (lv_at hl 0 rfl) ?_
    refine va_get (D := D) (v := .ref mm) (C := "ColonMachine$Primitives") (T := T_Primitives) (N := 7) hx hb hT i_Primitives hown hK hP 0 rfl rfl 3 (by decide) (hT _ fl_Primitives_22) (fun _ h9 => h9) rfl d_Primitives_said_39 ?_
    refine kN_pi (wr := [(pp, .inr (6, [.ref dd, .ref rr, .ref kc, .ref mm, .ref oo, .ref tt, .ref ww])), (oo, .inr (5, [.ref oa, .int un])), (oa, .inl (cI, 800, .inl uf))]) (zV (wc := [(mm, .inr (4, [.ref ma, .ref mb, .int he])), (ma, .inl (cI, 1000, .inl fc))]) (As := []) (rest := [.long x2.toInt64, .ref oo]) (st0 := [.ref mm, .long x2.toInt64, .ref oo]) ⟨hx, hb, hml, hown, hT⟩ (c_Memory_base l D cI cJ cZ cW cT s.heap.size mm ma mb he fc him) (cwV 0 hT (tbV ml_Primitives_228 im_Memory_base se_Memory_base in_Memory co_Memory_base) rfl rfl rfl v_Memory_base ⟨Nat.le_of_ble_eq_true rfl, Nat.le_of_ble_eq_true rfl⟩) hK hE hP hD hS hA [1, 2] rfl rfl 0 rfl rfl rfl hl.1 rfl (Nat.le_of_ble_eq_true rfl) d_Primitives_said_42 ⟨Nat.le_of_ble_eq_true rfl, Nat.le_of_ble_eq_true rfl⟩) hP hD hS hA [1, 2] [0, 3, 4] rfl rfl rfl (by decide) [0, 3, 4, 1, 2] rfl rfl (fun q2 H locs e2 k2 hP hD hS => ?_)
    have hP : va_P D classes [(pp, .inr (6, [.ref dd, .ref rr, .ref kc, .ref mm, .ref oo, .ref tt, .ref ww])), (mm, .inr (4, [.ref ma, .ref mb, .int he])), (ma, .inl (cI, 1000, .inl fc)), (oo, .inr (5, [.ref oa, .int un])), (oa, .inl (cI, 800, .inl uf))] H := hP
    have hD : va_D A [(pp, .inr (6, [.ref dd, .ref rr, .ref kc, .ref mm, .ref oo, .ref tt, .ref ww])), (mm, .inr (4, [.ref ma, .ref mb, .int he])), (ma, .inl (cI, 1000, .inl fc)), (oo, .inr (5, [.ref oa, .int un])), (oa, .inl (cI, 800, .inl uf))] := hD
    have hF := hF.trans (bd_e e2)
    refine kN_si (wr := [(pp, .inr (6, [.ref dd, .ref rr, .ref kc, .ref mm, .ref oo, .ref tt, .ref ww])), (mm, .inr (4, [.ref ma, .ref mb, .int he])), (ma, .inl (cI, 1000, .inl fc))]) (fun u : Int32 × (Nat → Int32) => [(pp, .inr (6, [.ref dd, .ref rr, .ref kc, .ref mm, .ref oo, .ref tt, .ref ww])), (mm, .inr (4, [.ref ma, .ref mb, .int he])), (ma, .inl (cI, 1000, .inl fc)), (oo, .inr (5, [.ref oa, .int u.1])), (oa, .inl (cI, 800, .inl u.2))]) (zV (wc := [(oo, .inr (5, [.ref oa, .int un])), (oa, .inl (cI, 800, .inl uf))]) (As := [.long x2.toInt64, .int q2]) (rest := []) (st0 := [.int q2, .long x2.toInt64, .ref oo]) ⟨hx, hb, hml, hown, hT⟩ (c_Out_saidNumber l D cI cJ cZ cW cT H.size oo oa un uf x2.toInt64 q2 hio) (cwV 2 hT (tbV ml_Primitives_231 im_Out_saidNumber se_Out_saidNumber in_Out co_Out_saidNumber) rfl rfl rfl v_Out_saidNumber ⟨Nat.le_of_ble_eq_true rfl, Nat.le_of_ble_eq_true rfl⟩) hK hE hP hD hS hA [3, 4] rfl rfl 0 rfl rfl rfl hl.1 rfl (Nat.le_of_ble_eq_true rfl) d_Primitives_said_45 ⟨Nat.le_of_ble_eq_true rfl, Nat.le_of_ble_eq_true rfl⟩) hP hD hS hA [3, 4] [0, 1, 2] rfl rfl rfl (by decide) [0, 1, 2, 3, 4] rfl (fun u => rfl) (fun q3 H locs e3 k3 hP hD hS => ?_)
    have hP : va_P D classes [(pp, .inr (6, [.ref dd, .ref rr, .ref kc, .ref mm, .ref oo, .ref tt, .ref ww])), (mm, .inr (4, [.ref ma, .ref mb, .int he])), (ma, .inl (cI, 1000, .inl fc)), (oo, .inr (5, [.ref oa, .int q3.2.1])), (oa, .inl (cI, 800, .inl q3.2.2))] H := hP
    have hD : va_D A [(pp, .inr (6, [.ref dd, .ref rr, .ref kc, .ref mm, .ref oo, .ref tt, .ref ww])), (mm, .inr (4, [.ref ma, .ref mb, .int he])), (ma, .inl (cI, 1000, .inl fc)), (oo, .inr (5, [.ref oa, .int q3.2.1])), (oa, .inl (cI, 800, .inl q3.2.2))] := hD
    have hF := hF.trans (bd_e e3)
    exact W.iret (v := q3.1) hx hb hr (fun t ht hW => ⟨⟨_, _, rfl, ⟨hF.symm, k3⟩, ⟨by rw [ht]; exact hP, va_K.moved hW.alike hK, hD⟩⟩, hS.F ht⟩) hS.2.2 d_Primitives_said_48
  · have hF := hF.trans (if_neg c1)
    by_cases c4 : x1 = 51
    · have hF := hF.trans (if_pos c4)
      refine lv_tableIn (off := 48) (tgt := 49) hx hb d_Primitives_said_1 (by rw [c4]; decide) (by rw [c4]; decide) (by rw [c4]; decide) (by decide) ?_
      refine lv_aload_n hx hb d_Primitives_said_49 rfl (lv_at hl 0 rfl) ?_
      refine va_get (D := D) (v := .ref oo) (C := "ColonMachine$Primitives") (T := T_Primitives) (N := 7) hx hb hT i_Primitives hown hK hP 0 rfl rfl 4 (by decide) (hT _ fl_Primitives_26) (fun _ h9 => h9) rfl d_Primitives_said_50 ?_
      refine lv_iload_n hx hb d_Primitives_said_53 rfl (lv_at hl 2 rfl) ?_
      refine lv_i2l (v := x2.toInt64) hx hb d_Primitives_said_54 rfl ?_
      refine lv_ldc2 (v := 4294967295) hx hb hown (hT _ cl_Primitives_237) d_Primitives_said_55 ?_
      refine lv_land hx hb d_Primitives_said_58 ?_
      refine lv_aload_n hx hb d_Primitives_said_59 rfl (lv_at hl 0 rfl) ?_
      refine va_get (D := D) (v := .ref mm) (C := "ColonMachine$Primitives") (T := T_Primitives) (N := 7) hx hb hT i_Primitives hown hK hP 0 rfl rfl 3 (by decide) (hT _ fl_Primitives_22) (fun _ h9 => h9) rfl d_Primitives_said_60 ?_
      refine kN_pi (wr := [(pp, .inr (6, [.ref dd, .ref rr, .ref kc, .ref mm, .ref oo, .ref tt, .ref ww])), (oo, .inr (5, [.ref oa, .int un])), (oa, .inl (cI, 800, .inl uf))]) (zV (wc := [(mm, .inr (4, [.ref ma, .ref mb, .int he])), (ma, .inl (cI, 1000, .inl fc))]) (As := []) (rest := [.long (x2.toInt64 &&& 4294967295), .ref oo]) (st0 := [.ref mm, .long (x2.toInt64 &&& 4294967295), .ref oo]) ⟨hx, hb, hml, hown, hT⟩ (c_Memory_base l D cI cJ cZ cW cT s.heap.size mm ma mb he fc him) (cwV 0 hT (tbV ml_Primitives_228 im_Memory_base se_Memory_base in_Memory co_Memory_base) rfl rfl rfl v_Memory_base ⟨Nat.le_of_ble_eq_true rfl, Nat.le_of_ble_eq_true rfl⟩) hK hE hP hD hS hA [1, 2] rfl rfl 0 rfl rfl rfl hl.1 rfl (Nat.le_of_ble_eq_true rfl) d_Primitives_said_63 ⟨Nat.le_of_ble_eq_true rfl, Nat.le_of_ble_eq_true rfl⟩) hP hD hS hA [1, 2] [0, 3, 4] rfl rfl rfl (by decide) [0, 3, 4, 1, 2] rfl rfl (fun q5 H locs e5 k5 hP hD hS => ?_)
      have hP : va_P D classes [(pp, .inr (6, [.ref dd, .ref rr, .ref kc, .ref mm, .ref oo, .ref tt, .ref ww])), (mm, .inr (4, [.ref ma, .ref mb, .int he])), (ma, .inl (cI, 1000, .inl fc)), (oo, .inr (5, [.ref oa, .int un])), (oa, .inl (cI, 800, .inl uf))] H := hP
      have hD : va_D A [(pp, .inr (6, [.ref dd, .ref rr, .ref kc, .ref mm, .ref oo, .ref tt, .ref ww])), (mm, .inr (4, [.ref ma, .ref mb, .int he])), (ma, .inl (cI, 1000, .inl fc)), (oo, .inr (5, [.ref oa, .int un])), (oa, .inl (cI, 800, .inl uf))] := hD
      have hF := hF.trans (bd_e e5)
      refine kN_si (wr := [(pp, .inr (6, [.ref dd, .ref rr, .ref kc, .ref mm, .ref oo, .ref tt, .ref ww])), (mm, .inr (4, [.ref ma, .ref mb, .int he])), (ma, .inl (cI, 1000, .inl fc))]) (fun u : Int32 × (Nat → Int32) => [(pp, .inr (6, [.ref dd, .ref rr, .ref kc, .ref mm, .ref oo, .ref tt, .ref ww])), (mm, .inr (4, [.ref ma, .ref mb, .int he])), (ma, .inl (cI, 1000, .inl fc)), (oo, .inr (5, [.ref oa, .int u.1])), (oa, .inl (cI, 800, .inl u.2))]) (zV (wc := [(oo, .inr (5, [.ref oa, .int un])), (oa, .inl (cI, 800, .inl uf))]) (As := [.long (x2.toInt64 &&& 4294967295), .int q5]) (rest := []) (st0 := [.int q5, .long (x2.toInt64 &&& 4294967295), .ref oo]) ⟨hx, hb, hml, hown, hT⟩ (c_Out_saidNumber l D cI cJ cZ cW cT H.size oo oa un uf (x2.toInt64 &&& 4294967295) q5 hio) (cwV 2 hT (tbV ml_Primitives_231 im_Out_saidNumber se_Out_saidNumber in_Out co_Out_saidNumber) rfl rfl rfl v_Out_saidNumber ⟨Nat.le_of_ble_eq_true rfl, Nat.le_of_ble_eq_true rfl⟩) hK hE hP hD hS hA [3, 4] rfl rfl 0 rfl rfl rfl hl.1 rfl (Nat.le_of_ble_eq_true rfl) d_Primitives_said_66 ⟨Nat.le_of_ble_eq_true rfl, Nat.le_of_ble_eq_true rfl⟩) hP hD hS hA [3, 4] [0, 1, 2] rfl rfl rfl (by decide) [0, 1, 2, 3, 4] rfl (fun u => rfl) (fun q6 H locs e6 k6 hP hD hS => ?_)
      have hP : va_P D classes [(pp, .inr (6, [.ref dd, .ref rr, .ref kc, .ref mm, .ref oo, .ref tt, .ref ww])), (mm, .inr (4, [.ref ma, .ref mb, .int he])), (ma, .inl (cI, 1000, .inl fc)), (oo, .inr (5, [.ref oa, .int q6.2.1])), (oa, .inl (cI, 800, .inl q6.2.2))] H := hP
      have hD : va_D A [(pp, .inr (6, [.ref dd, .ref rr, .ref kc, .ref mm, .ref oo, .ref tt, .ref ww])), (mm, .inr (4, [.ref ma, .ref mb, .int he])), (ma, .inl (cI, 1000, .inl fc)), (oo, .inr (5, [.ref oa, .int q6.2.1])), (oa, .inl (cI, 800, .inl q6.2.2))] := hD
      have hF := hF.trans (bd_e e6)
      exact W.iret (v := q6.1) hx hb hr (fun t ht hW => ⟨⟨_, _, rfl, ⟨hF.symm, k6⟩, ⟨by rw [ht]; exact hP, va_K.moved hW.alike hK, hD⟩⟩, hS.F ht⟩) hS.2.2 d_Primitives_said_69
    · have hF := hF.trans (if_neg c4)
      by_cases c7 : x1 = 52
      · have hF := hF.trans (if_pos c7)
        refine lv_tableIn (off := 69) (tgt := 70) hx hb d_Primitives_said_1 (by rw [c7]; decide) (by rw [c7]; decide) (by rw [c7]; decide) (by decide) ?_
        refine lv_aload_n hx hb d_Primitives_said_70 rfl (lv_at hl 0 rfl) ?_
        refine va_get (D := D) (v := .ref oo) (C := "ColonMachine$Primitives") (T := T_Primitives) (N := 7) hx hb hT i_Primitives hown hK hP 0 rfl rfl 4 (by decide) (hT _ fl_Primitives_26) (fun _ h9 => h9) rfl d_Primitives_said_71 ?_
        refine lv_iload_n hx hb d_Primitives_said_74 rfl (lv_at hl 2 rfl) ?_
        refine kN_si (wr := [(pp, .inr (6, [.ref dd, .ref rr, .ref kc, .ref mm, .ref oo, .ref tt, .ref ww])), (mm, .inr (4, [.ref ma, .ref mb, .int he])), (ma, .inl (cI, 1000, .inl fc))]) (fun u : Int32 × (Nat → Int32) => [(pp, .inr (6, [.ref dd, .ref rr, .ref kc, .ref mm, .ref oo, .ref tt, .ref ww])), (mm, .inr (4, [.ref ma, .ref mb, .int he])), (ma, .inl (cI, 1000, .inl fc)), (oo, .inr (5, [.ref oa, .int u.1])), (oa, .inl (cI, 800, .inl u.2))]) (zV (wc := [(oo, .inr (5, [.ref oa, .int un])), (oa, .inl (cI, 800, .inl uf))]) (As := [.int x2]) (rest := []) (st0 := [.int x2, .ref oo]) ⟨hx, hb, hml, hown, hT⟩ (c_Out_saidByte l D cI cJ cZ cW cT s.heap.size oo oa un uf x2 hio) (cwV 1 hT (tbV ml_Primitives_239 im_Out_saidByte se_Out_saidByte in_Out co_Out_saidByte) rfl rfl rfl v_Out_saidByte ⟨Nat.le_of_ble_eq_true rfl, Nat.le_of_ble_eq_true rfl⟩) hK hE hP hD hS hA [3, 4] rfl rfl 0 rfl rfl rfl hl.1 rfl (Nat.le_of_ble_eq_true rfl) d_Primitives_said_75 ⟨Nat.le_of_ble_eq_true rfl, Nat.le_of_ble_eq_true rfl⟩) hP hD hS hA [3, 4] [0, 1, 2] rfl rfl rfl (by decide) [0, 1, 2, 3, 4] rfl (fun u => rfl) (fun q8 H locs e8 k8 hP hD hS => ?_)
        have hP : va_P D classes [(pp, .inr (6, [.ref dd, .ref rr, .ref kc, .ref mm, .ref oo, .ref tt, .ref ww])), (mm, .inr (4, [.ref ma, .ref mb, .int he])), (ma, .inl (cI, 1000, .inl fc)), (oo, .inr (5, [.ref oa, .int q8.2.1])), (oa, .inl (cI, 800, .inl q8.2.2))] H := hP
        have hD : va_D A [(pp, .inr (6, [.ref dd, .ref rr, .ref kc, .ref mm, .ref oo, .ref tt, .ref ww])), (mm, .inr (4, [.ref ma, .ref mb, .int he])), (ma, .inl (cI, 1000, .inl fc)), (oo, .inr (5, [.ref oa, .int q8.2.1])), (oa, .inl (cI, 800, .inl q8.2.2))] := hD
        have hF := hF.trans (bd_e e8)
        exact W.iret (v := q8.1) hx hb hr (fun t ht hW => ⟨⟨_, _, rfl, ⟨hF.symm, k8⟩, ⟨by rw [ht]; exact hP, va_K.moved hW.alike hK, hD⟩⟩, hS.F ht⟩) hS.2.2 d_Primitives_said_78
      · have hF := hF.trans (if_neg c7)
        by_cases c9 : x1 = 53
        · have hF := hF.trans (if_pos c9)
          refine lv_tableIn (off := 78) (tgt := 79) hx hb d_Primitives_said_1 (by rw [c9]; decide) (by rw [c9]; decide) (by rw [c9]; decide) (by decide) ?_
          refine lv_aload_n hx hb d_Primitives_said_79 rfl (lv_at hl 0 rfl) ?_
          refine va_get (D := D) (v := .ref oo) (C := "ColonMachine$Primitives") (T := T_Primitives) (N := 7) hx hb hT i_Primitives hown hK hP 0 rfl rfl 4 (by decide) (hT _ fl_Primitives_26) (fun _ h9 => h9) rfl d_Primitives_said_80 ?_
          refine lv_bipush (v := 10) hx hb d_Primitives_said_83 (by decide) ?_
          refine kN_si (wr := [(pp, .inr (6, [.ref dd, .ref rr, .ref kc, .ref mm, .ref oo, .ref tt, .ref ww])), (mm, .inr (4, [.ref ma, .ref mb, .int he])), (ma, .inl (cI, 1000, .inl fc))]) (fun u : Int32 × (Nat → Int32) => [(pp, .inr (6, [.ref dd, .ref rr, .ref kc, .ref mm, .ref oo, .ref tt, .ref ww])), (mm, .inr (4, [.ref ma, .ref mb, .int he])), (ma, .inl (cI, 1000, .inl fc)), (oo, .inr (5, [.ref oa, .int u.1])), (oa, .inl (cI, 800, .inl u.2))]) (zV (wc := [(oo, .inr (5, [.ref oa, .int un])), (oa, .inl (cI, 800, .inl uf))]) (As := [.int 10]) (rest := []) (st0 := [.int 10, .ref oo]) ⟨hx, hb, hml, hown, hT⟩ (c_Out_saidByte l D cI cJ cZ cW cT s.heap.size oo oa un uf 10 hio) (cwV 1 hT (tbV ml_Primitives_239 im_Out_saidByte se_Out_saidByte in_Out co_Out_saidByte) rfl rfl rfl v_Out_saidByte ⟨Nat.le_of_ble_eq_true rfl, Nat.le_of_ble_eq_true rfl⟩) hK hE hP hD hS hA [3, 4] rfl rfl 0 rfl rfl rfl hl.1 rfl (Nat.le_of_ble_eq_true rfl) d_Primitives_said_85 ⟨Nat.le_of_ble_eq_true rfl, Nat.le_of_ble_eq_true rfl⟩) hP hD hS hA [3, 4] [0, 1, 2] rfl rfl rfl (by decide) [0, 1, 2, 3, 4] rfl (fun u => rfl) (fun q10 H locs e10 k10 hP hD hS => ?_)
          have hP : va_P D classes [(pp, .inr (6, [.ref dd, .ref rr, .ref kc, .ref mm, .ref oo, .ref tt, .ref ww])), (mm, .inr (4, [.ref ma, .ref mb, .int he])), (ma, .inl (cI, 1000, .inl fc)), (oo, .inr (5, [.ref oa, .int q10.2.1])), (oa, .inl (cI, 800, .inl q10.2.2))] H := hP
          have hD : va_D A [(pp, .inr (6, [.ref dd, .ref rr, .ref kc, .ref mm, .ref oo, .ref tt, .ref ww])), (mm, .inr (4, [.ref ma, .ref mb, .int he])), (ma, .inl (cI, 1000, .inl fc)), (oo, .inr (5, [.ref oa, .int q10.2.1])), (oa, .inl (cI, 800, .inl q10.2.2))] := hD
          have hF := hF.trans (bd_e e10)
          exact W.iret (v := q10.1) hx hb hr (fun t ht hW => ⟨⟨_, _, rfl, ⟨hF.symm, k10⟩, ⟨by rw [ht]; exact hP, va_K.moved hW.alike hK, hD⟩⟩, hS.F ht⟩) hS.2.2 d_Primitives_said_88
        · have hF := hF.trans (if_neg c9)
          refine lv_tableD (tgt := 89) hx hb [50, 51, 52, 53] d_Primitives_said_1 rfl (by decide) (List.forall_mem_cons.2 ⟨lv_neT c1 rfl, List.forall_mem_cons.2 ⟨lv_neT c4 rfl, List.forall_mem_cons.2 ⟨lv_neT c7 rfl, List.forall_mem_cons.2 ⟨lv_neT c9 rfl, fun _ h => absurd h List.not_mem_nil⟩⟩⟩⟩) (by decide) ?_
          refine lv_aload_n hx hb d_Primitives_said_89 rfl (lv_at hl 0 rfl) ?_
          refine va_get (D := D) (v := .ref oo) (C := "ColonMachine$Primitives") (T := T_Primitives) (N := 7) hx hb hT i_Primitives hown hK hP 0 rfl rfl 4 (by decide) (hT _ fl_Primitives_26) (fun _ h9 => h9) rfl d_Primitives_said_90 ?_
          refine lv_bipush (v := 32) hx hb d_Primitives_said_93 (by decide) ?_
          refine kN_si (wr := [(pp, .inr (6, [.ref dd, .ref rr, .ref kc, .ref mm, .ref oo, .ref tt, .ref ww])), (mm, .inr (4, [.ref ma, .ref mb, .int he])), (ma, .inl (cI, 1000, .inl fc))]) (fun u : Int32 × (Nat → Int32) => [(pp, .inr (6, [.ref dd, .ref rr, .ref kc, .ref mm, .ref oo, .ref tt, .ref ww])), (mm, .inr (4, [.ref ma, .ref mb, .int he])), (ma, .inl (cI, 1000, .inl fc)), (oo, .inr (5, [.ref oa, .int u.1])), (oa, .inl (cI, 800, .inl u.2))]) (zV (wc := [(oo, .inr (5, [.ref oa, .int un])), (oa, .inl (cI, 800, .inl uf))]) (As := [.int 32]) (rest := []) (st0 := [.int 32, .ref oo]) ⟨hx, hb, hml, hown, hT⟩ (c_Out_saidByte l D cI cJ cZ cW cT s.heap.size oo oa un uf 32 hio) (cwV 1 hT (tbV ml_Primitives_239 im_Out_saidByte se_Out_saidByte in_Out co_Out_saidByte) rfl rfl rfl v_Out_saidByte ⟨Nat.le_of_ble_eq_true rfl, Nat.le_of_ble_eq_true rfl⟩) hK hE hP hD hS hA [3, 4] rfl rfl 0 rfl rfl rfl hl.1 rfl (Nat.le_of_ble_eq_true rfl) d_Primitives_said_95 ⟨Nat.le_of_ble_eq_true rfl, Nat.le_of_ble_eq_true rfl⟩) hP hD hS hA [3, 4] [0, 1, 2] rfl rfl rfl (by decide) [0, 1, 2, 3, 4] rfl (fun u => rfl) (fun q11 H locs e11 k11 hP hD hS => ?_)
          have hP : va_P D classes [(pp, .inr (6, [.ref dd, .ref rr, .ref kc, .ref mm, .ref oo, .ref tt, .ref ww])), (mm, .inr (4, [.ref ma, .ref mb, .int he])), (ma, .inl (cI, 1000, .inl fc)), (oo, .inr (5, [.ref oa, .int q11.2.1])), (oa, .inl (cI, 800, .inl q11.2.2))] H := hP
          have hD : va_D A [(pp, .inr (6, [.ref dd, .ref rr, .ref kc, .ref mm, .ref oo, .ref tt, .ref ww])), (mm, .inr (4, [.ref ma, .ref mb, .int he])), (ma, .inl (cI, 1000, .inl fc)), (oo, .inr (5, [.ref oa, .int q11.2.1])), (oa, .inl (cI, 800, .inl q11.2.2))] := hD
          have hF := hF.trans (bd_e e11)
          exact W.iret (v := q11.1) hx hb hr (fun t ht hW => ⟨⟨_, _, rfl, ⟨hF.symm, k11⟩, ⟨by rw [ht]; exact hP, va_K.moved hW.alike hK, hD⟩⟩, hS.F ht⟩) hS.2.2 d_Primitives_said_98
/-- the picture of ColonMachine$Primitives.allocate -/
def F_Prim_allocate (dn : Int32) (df : Nat → Int32) (fc : Nat → Int32) (fb : Nat → Int32) : Int32 × Int32 × (Nat → Int32) × (Nat → Int32) × (Nat → Int32) := bd (F_Cells_at dn df 0) (fun q1 => bd (F_Memory_allocate fc fb q1) (fun q2 => bd (F_Cells_set dn df 0 q2.1) (fun q3 => if q2.1 = 0 then (bd (F_Prim_put dn q3 (-59)) (fun q6 => (q6.1, (q6.2.1, q6.2.2, q2.2.1, q2.2.2)))) else (bd (F_Prim_put dn q3 0) (fun q5 => (q5.1, (q5.2.1, q5.2.2, q2.2.1, q2.2.2)))))))
theorem F_Prim_allocate_e (dn : Int32) (df : Nat → Int32) (fc : Nat → Int32) (fb : Nat → Int32) : F_Prim_allocate dn df fc fb = bd (F_Cells_at dn df 0) (fun q1 => bd (F_Memory_allocate fc fb q1) (fun q2 => bd (F_Cells_set dn df 0 q2.1) (fun q3 => if q2.1 = 0 then (bd (F_Prim_put dn q3 (-59)) (fun q6 => (q6.1, (q6.2.1, q6.2.2, q2.2.1, q2.2.2)))) else (bd (F_Prim_put dn q3 0) (fun q5 => (q5.1, (q5.2.1, q5.2.2, q2.2.1, q2.2.2))))))) := rfl
set_option maxHeartbeats 4000000 in
set_option maxRecDepth 100000 in
theorem c_Prim_allocate (l : Launch) (D : va_G) (cI cJ cZ cW cT : ClassId) (sz : Nat) (pp : Nat) (dd : Nat) (rr : Nat) (kc : Nat) (mm : Nat) (oo : Nat) (tt : Nat) (ww : Nat) (da : Nat) (ma : Nat) (mb : Nat) (dn : Int32) (df : Nat → Int32) (he : Int32) (fc : Nat → Int32) (fb : Nat → Int32) (hid : CellsOk 64 dn) (him : MemOk he) : Met l y_Primitives_allocate w_Primitives_allocate ({ frames := 3, cells := 0, slots := 0, locals := 67 }) (va_Pc [.ref pp] (zP D classes (TY cI cJ cZ cW cT) [(pp, .inr (6, [.ref dd, .ref rr, .ref kc, .ref mm, .ref oo, .ref tt, .ref ww])), (dd, .inr (1, [.ref da, .int dn])), (da, .inl (cI, 64, .inl df)), (mm, .inr (4, [.ref ma, .ref mb, .int he])), (ma, .inl (cI, 1000, .inl fc)), (mb, .inl (cI, 600, .inl fb))] sz)) (va_Qi (fun (r : Int32) (u : Int32 × (Nat → Int32) × (Nat → Int32) × (Nat → Int32)) => (r, u) = F_Prim_allocate dn df fc fb ∧ ((CellsOk 64 u.1))) (fun u => zB D classes (TY cI cJ cZ cW cT) (va_A [(pp, .inr (6, [.ref dd, .ref rr, .ref kc, .ref mm, .ref oo, .ref tt, .ref ww])), (dd, .inr (1, [.ref da, .int dn])), (da, .inl (cI, 64, .inl df)), (mm, .inr (4, [.ref ma, .ref mb, .int he])), (ma, .inl (cI, 1000, .inl fc)), (mb, .inl (cI, 600, .inl fb))] sz) [(pp, .inr (6, [.ref dd, .ref rr, .ref kc, .ref mm, .ref oo, .ref tt, .ref ww])), (dd, .inr (1, [.ref da, .int u.1])), (da, .inl (cI, 64, .inl u.2.1)), (mm, .inr (4, [.ref ma, .ref mb, .int he])), (ma, .inl (cI, 1000, .inl u.2.2.1)), (mb, .inl (cI, 600, .inl u.2.2.2))]) (va_A [(pp, .inr (6, [.ref dd, .ref rr, .ref kc, .ref mm, .ref oo, .ref tt, .ref ww])), (dd, .inr (1, [.ref da, .int dn])), (da, .inl (cI, 64, .inl df)), (mm, .inr (4, [.ref ma, .ref mb, .int he])), (ma, .inl (cI, 1000, .inl fc)), (mb, .inl (cI, 600, .inl fb))] sz)) 0 0 (va_A [(pp, .inr (6, [.ref dd, .ref rr, .ref kc, .ref mm, .ref oo, .ref tt, .ref ww])), (dd, .inr (1, [.ref da, .int dn])), (da, .inl (cI, 64, .inl df)), (mm, .inr (4, [.ref ma, .ref mb, .int he])), (ma, .inl (cI, 1000, .inl fc)), (mb, .inl (cI, 600, .inl fb))] sz) := by
  refine Met.ofW (cc := b_Primitives_allocate) (maxL := 2) (ret := (some .int)) (by decide) rfl ?_
  intro p e s m args below meth c s₁ B hml hv
  obtain ⟨rfl, hsz, hP, hK, hD0, hE⟩ := hv
  have hx := B.exec
  have hb := B.bytes
  have hr := B.returns
  have hts := atoms_spec (ws := w_Primitives_allocate) B.pre
  have hT : ∀ w ∈ TB, w.before _ s = true := fun w h => hts w (List.mem_cons_of_mem _ h)
  have hown : s.vm.findClass "ColonMachine$Primitives" = some m.cls := findClass_of_methodNamed B.named
  have hlocks := B.notSynchronized
  subst hsz
  have hD := hD0.self (sz := s.heap.size)
  generalize hAe : va_A [(pp, .inr (6, [.ref dd, .ref rr, .ref kc, .ref mm, .ref oo, .ref tt, .ref ww])), (dd, .inr (1, [.ref da, .int dn])), (da, .inl (cI, 64, .inl df)), (mm, .inr (4, [.ref ma, .ref mb, .int he])), (ma, .inl (cI, 1000, .inl fc)), (mb, .inl (cI, 600, .inl fb))] s.heap.size = A at hD hE ⊢
  have hA : ∀ q : Nat, s.heap.size ≤ q → A q := fun q h => by rw [← hAe]; exact Or.inr h
  have hS : va_S A s.heap s.heap [] := va_S.rf
  have hl := lv_entry [.ref pp] (n := 2) (Nat.le_of_ble_eq_true rfl)
  rw [lg_entry_eq]
  generalize (lg_sl [.ref pp] ++ List.replicate (2 - (lg_sl [.ref pp]).length) Slot.unset).toArray = ls at hl ⊢
  have hl : lv_has ls 2 [(0, .ref pp)] := hl
  have hF := F_Prim_allocate_e dn df fc fb
  refine lv_aload_n hx hb d_Primitives_allocate_0 rfl (lv_at hl 0 rfl) ?_
  refine va_get (D := D) (v := .ref mm) (C := "ColonMachine$Primitives") (T := T_Primitives) (N := 7) hx hb hT i_Primitives hown hK hP 0 rfl rfl 3 (by decide) (hT _ fl_Primitives_22) (fun _ h9 => h9) rfl d_Primitives_allocate_1 ?_
  refine lv_aload_n hx hb d_Primitives_allocate_4 rfl (lv_at hl 0 rfl) ?_
  refine va_get (D := D) (v := .ref dd) (C := "ColonMachine$Primitives") (T := T_Primitives) (N := 7) hx hb hT i_Primitives hown hK hP 0 rfl rfl 0 (by decide) (hT _ fl_Primitives_9) (fun _ h9 => h9) rfl d_Primitives_allocate_5 ?_
  refine lv_iconst (v := 0) hx hb d_Primitives_allocate_8 (by decide) ?_
  refine kN_pi (wr := [(pp, .inr (6, [.ref dd, .ref rr, .ref kc, .ref mm, .ref oo, .ref tt, .ref ww])), (mm, .inr (4, [.ref ma, .ref mb, .int he])), (ma, .inl (cI, 1000, .inl fc)), (mb, .inl (cI, 600, .inl fb))]) (zV (wc := [(dd, .inr (1, [.ref da, .int dn])), (da, .inl (cI, 64, .inl df))]) (As := [.int 0]) (rest := [.ref mm]) (st0 := [.int 0, .ref dd, .ref mm]) ⟨hx, hb, hml, hown, hT⟩ (c_Cells_at l D cI cJ cZ cW cT s.heap.size dd da 64 dn df 0 hid) (cwV 1 hT (tbV ml_Primitives_116 im_Cells_at se_Cells_at in_Cells co_Cells_at) rfl rfl rfl v_Cells_at ⟨Nat.le_of_ble_eq_true rfl, Nat.le_of_ble_eq_true rfl⟩) hK hE hP hD hS hA [1, 2] rfl rfl 0 rfl rfl rfl hl.1 rfl (Nat.le_of_ble_eq_true rfl) d_Primitives_allocate_9 ⟨Nat.le_of_ble_eq_true rfl, Nat.le_of_ble_eq_true rfl⟩) hP hD hS hA [1, 2] [0, 3, 4, 5] rfl rfl rfl (by decide) [0, 4, 5, 1, 2, 3] rfl rfl (fun q1 H locs e1 k1 hP hD hS => ?_)
  have hP : va_P D classes [(pp, .inr (6, [.ref dd, .ref rr, .ref kc, .ref mm, .ref oo, .ref tt, .ref ww])), (dd, .inr (1, [.ref da, .int dn])), (da, .inl (cI, 64, .inl df)), (mm, .inr (4, [.ref ma, .ref mb, .int he])), (ma, .inl (cI, 1000, .inl fc)), (mb, .inl (cI, 600, .inl fb))] H := hP
  have hD : va_D A [(pp, .inr (6, [.ref dd, .ref rr, .ref kc, .ref mm, .ref oo, .ref tt, .ref ww])), (dd, .inr (1, [.ref da, .int dn])), (da, .inl (cI, 64, .inl df)), (mm, .inr (4, [.ref ma, .ref mb, .int he])), (ma, .inl (cI, 1000, .inl fc)), (mb, .inl (cI, 600, .inl fb))] := hD
  have hF := hF.trans (bd_e e1)
  refine kN_si (wr := [(pp, .inr (6, [.ref dd, .ref rr, .ref kc, .ref mm, .ref oo, .ref tt, .ref ww])), (dd, .inr (1, [.ref da, .int dn])), (da, .inl (cI, 64, .inl df))]) (fun u : (Nat → Int32) × (Nat → Int32) => [(pp, .inr (6, [.ref dd, .ref rr, .ref kc, .ref mm, .ref oo, .ref tt, .ref ww])), (dd, .inr (1, [.ref da, .int dn])), (da, .inl (cI, 64, .inl df)), (mm, .inr (4, [.ref ma, .ref mb, .int he])), (ma, .inl (cI, 1000, .inl u.1)), (mb, .inl (cI, 600, .inl u.2))]) (zV (wc := [(mm, .inr (4, [.ref ma, .ref mb, .int he])), (ma, .inl (cI, 1000, .inl fc)), (mb, .inl (cI, 600, .inl fb))]) (As := [.int q1]) (rest := []) (st0 := [.int q1, .ref mm]) ⟨hx, hb, hml, hown, hT⟩ (c_Memory_allocate l D cI cJ cZ cW cT H.size mm ma mb he fc fb q1 him) (cwV 1 hT (tbV ml_Primitives_242 im_Memory_allocate se_Memory_allocate in_Memory co_Memory_allocate) rfl rfl rfl v_Memory_allocate ⟨Nat.le_of_ble_eq_true rfl, Nat.le_of_ble_eq_true rfl⟩) hK hE hP hD hS hA [3, 4, 5] rfl rfl 0 rfl rfl rfl hl.1 rfl (Nat.le_of_ble_eq_true rfl) d_Primitives_allocate_12 ⟨Nat.le_of_ble_eq_true rfl, Nat.le_of_ble_eq_true rfl⟩) hP hD hS hA [3, 4, 5] [0, 1, 2] rfl rfl rfl (by decide) [0, 1, 2, 3, 4, 5] rfl (fun u => rfl) (fun q2 H locs e2 k2 hP hD hS => ?_)
  have hP : va_P D classes [(pp, .inr (6, [.ref dd, .ref rr, .ref kc, .ref mm, .ref oo, .ref tt, .ref ww])), (dd, .inr (1, [.ref da, .int dn])), (da, .inl (cI, 64, .inl df)), (mm, .inr (4, [.ref ma, .ref mb, .int he])), (ma, .inl (cI, 1000, .inl q2.2.1)), (mb, .inl (cI, 600, .inl q2.2.2))] H := hP
  have hD : va_D A [(pp, .inr (6, [.ref dd, .ref rr, .ref kc, .ref mm, .ref oo, .ref tt, .ref ww])), (dd, .inr (1, [.ref da, .int dn])), (da, .inl (cI, 64, .inl df)), (mm, .inr (4, [.ref ma, .ref mb, .int he])), (ma, .inl (cI, 1000, .inl q2.2.1)), (mb, .inl (cI, 600, .inl q2.2.2))] := hD
  have hF := hF.trans (bd_e e2)
  refine lv_istore_n (lv' := [(1, .int q2.1), (0, .ref pp)]) hx hb d_Primitives_allocate_15 rfl hl (by decide) rfl (fun ls hl => ?_)
  refine lv_aload_n hx hb d_Primitives_allocate_16 rfl (lv_at hl 1 rfl) ?_
  refine va_get (D := D) (v := .ref dd) (C := "ColonMachine$Primitives") (T := T_Primitives) (N := 7) hx hb hT i_Primitives hown hK hP 0 rfl rfl 0 (by decide) (hT _ fl_Primitives_9) (fun _ h9 => h9) rfl d_Primitives_allocate_17 ?_
  refine lv_iconst (v := 0) hx hb d_Primitives_allocate_20 (by decide) ?_
  refine lv_iload_n hx hb d_Primitives_allocate_21 rfl (lv_at hl 0 rfl) ?_
  refine kN_sv (wr := [(pp, .inr (6, [.ref dd, .ref rr, .ref kc, .ref mm, .ref oo, .ref tt, .ref ww])), (mm, .inr (4, [.ref ma, .ref mb, .int he])), (ma, .inl (cI, 1000, .inl q2.2.1)), (mb, .inl (cI, 600, .inl q2.2.2))]) (fun u : (Nat → Int32) => [(pp, .inr (6, [.ref dd, .ref rr, .ref kc, .ref mm, .ref oo, .ref tt, .ref ww])), (dd, .inr (1, [.ref da, .int dn])), (da, .inl (cI, 64, .inl u)), (mm, .inr (4, [.ref ma, .ref mb, .int he])), (ma, .inl (cI, 1000, .inl q2.2.1)), (mb, .inl (cI, 600, .inl q2.2.2))]) (zV (wc := [(dd, .inr (1, [.ref da, .int dn])), (da, .inl (cI, 64, .inl df))]) (As := [.int 0, .int q2.1]) (rest := []) (st0 := [.int q2.1, .int 0, .ref dd]) ⟨hx, hb, hml, hown, hT⟩ (c_Cells_set l D cI cJ cZ cW cT H.size dd da 64 dn df 0 q2.1 hid) (cwV 2 hT (tbV ml_Primitives_152 im_Cells_set se_Cells_set in_Cells co_Cells_set) rfl rfl rfl v_Cells_set ⟨Nat.le_of_ble_eq_true rfl, Nat.le_of_ble_eq_true rfl⟩) hK hE hP hD hS hA [1, 2] rfl rfl 0 rfl rfl rfl hl.1 rfl (Nat.le_of_ble_eq_true rfl) d_Primitives_allocate_22 ⟨Nat.le_of_ble_eq_true rfl, Nat.le_of_ble_eq_true rfl⟩) hP hD hS hA [1, 2] [0, 3, 4, 5] rfl rfl rfl (by decide) [0, 4, 5, 1, 2, 3] rfl (fun u => rfl) (fun q3 H locs e3 k3 hP hD hS => ?_)
  have hP : va_P D classes [(pp, .inr (6, [.ref dd, .ref rr, .ref kc, .ref mm, .ref oo, .ref tt, .ref ww])), (dd, .inr (1, [.ref da, .int dn])), (da, .inl (cI, 64, .inl q3)), (mm, .inr (4, [.ref ma, .ref mb, .int he])), (ma, .inl (cI, 1000, .inl q2.2.1)), (mb, .inl (cI, 600, .inl q2.2.2))] H := hP
  have hD : va_D A [(pp, .inr (6, [.ref dd, .ref rr, .ref kc, .ref mm, .ref oo, .ref tt, .ref ww])), (dd, .inr (1, [.ref da, .int dn])), (da, .inl (cI, 64, .inl q3)), (mm, .inr (4, [.ref ma, .ref mb, .int he])), (ma, .inl (cI, 1000, .inl q2.2.1)), (mb, .inl (cI, 600, .inl q2.2.2))] := hD
  have hF := hF.trans (bd_e e3)
  refine lv_aload_n hx hb d_Primitives_allocate_25 rfl (lv_at hl 1 rfl) ?_
  refine lv_iload_n hx hb d_Primitives_allocate_26 rfl (lv_at hl 0 rfl) ?_
  refine lv_if_ne (tgt := 35) hx hb d_Primitives_allocate_27 (by decide) (fun c4 => ?_) (fun c4 => ?_)
  · have hF := hF.trans (if_neg c4)
    refine lv_iconst (v := 0) hx hb d_Primitives_allocate_35 (by decide) ?_
    refine kN_si (wr := [(mm, .inr (4, [.ref ma, .ref mb, .int he])), (ma, .inl (cI, 1000, .inl q2.2.1)), (mb, .inl (cI, 600, .inl q2.2.2))]) (fun u : Int32 × (Nat → Int32) => [(pp, .inr (6, [.ref dd, .ref rr, .ref kc, .ref mm, .ref oo, .ref tt, .ref ww])), (dd, .inr (1, [.ref da, .int u.1])), (da, .inl (cI, 64, .inl u.2)), (mm, .inr (4, [.ref ma, .ref mb, .int he])), (ma, .inl (cI, 1000, .inl q2.2.1)), (mb, .inl (cI, 600, .inl q2.2.2))]) (zV (wc := [(pp, .inr (6, [.ref dd, .ref rr, .ref kc, .ref mm, .ref oo, .ref tt, .ref ww])), (dd, .inr (1, [.ref da, .int dn])), (da, .inl (cI, 64, .inl q3))]) (As := [.int 0]) (rest := []) (st0 := [.int 0, .ref pp]) ⟨hx, hb, hml, hown, hT⟩ (c_Prim_put l D cI cJ cZ cW cT H.size pp dd rr kc mm oo tt ww da dn q3 0 hid) (cwV 1 hT (tbV ml_Primitives_119 im_Primitives_put se_Primitives_put in_Primitives co_Primitives_put) rfl rfl rfl v_Primitives_put ⟨Nat.le_of_ble_eq_true rfl, Nat.le_of_ble_eq_true rfl⟩) hK hE hP hD hS hA [0, 1, 2] rfl rfl 0 rfl rfl rfl hl.1 rfl (Nat.le_of_ble_eq_true rfl) d_Primitives_allocate_36 ⟨Nat.le_of_ble_eq_true rfl, Nat.le_of_ble_eq_true rfl⟩) hP hD hS hA [0, 1, 2] [3, 4, 5] rfl rfl rfl (by decide) [3, 4, 5, 0, 1, 2] rfl (fun u => rfl) (fun q5 H locs e5 k5 hP hD hS => ?_)
    have hP : va_P D classes [(pp, .inr (6, [.ref dd, .ref rr, .ref kc, .ref mm, .ref oo, .ref tt, .ref ww])), (dd, .inr (1, [.ref da, .int q5.2.1])), (da, .inl (cI, 64, .inl q5.2.2)), (mm, .inr (4, [.ref ma, .ref mb, .int he])), (ma, .inl (cI, 1000, .inl q2.2.1)), (mb, .inl (cI, 600, .inl q2.2.2))] H := hP
    have hD : va_D A [(pp, .inr (6, [.ref dd, .ref rr, .ref kc, .ref mm, .ref oo, .ref tt, .ref ww])), (dd, .inr (1, [.ref da, .int q5.2.1])), (da, .inl (cI, 64, .inl q5.2.2)), (mm, .inr (4, [.ref ma, .ref mb, .int he])), (ma, .inl (cI, 1000, .inl q2.2.1)), (mb, .inl (cI, 600, .inl q2.2.2))] := hD
    have hF := hF.trans (bd_e e5)
    exact W.iret (v := q5.1) hx hb hr (fun t ht hW => ⟨⟨_, _, rfl, ⟨hF.symm, k5⟩, ⟨by rw [ht]; exact hP, va_K.moved hW.alike hK, hD⟩⟩, hS.F ht⟩) hS.2.2 d_Primitives_allocate_39
  · have hF := hF.trans (if_pos c4)
    refine lv_bipush (v := (-59)) hx hb d_Primitives_allocate_30 (by decide) ?_
    refine lv_goto (tgt := 36) hx hb d_Primitives_allocate_32 (by decide) ?_
    refine kN_si (wr := [(mm, .inr (4, [.ref ma, .ref mb, .int he])), (ma, .inl (cI, 1000, .inl q2.2.1)), (mb, .inl (cI, 600, .inl q2.2.2))]) (fun u : Int32 × (Nat → Int32) => [(pp, .inr (6, [.ref dd, .ref rr, .ref kc, .ref mm, .ref oo, .ref tt, .ref ww])), (dd, .inr (1, [.ref da, .int u.1])), (da, .inl (cI, 64, .inl u.2)), (mm, .inr (4, [.ref ma, .ref mb, .int he])), (ma, .inl (cI, 1000, .inl q2.2.1)), (mb, .inl (cI, 600, .inl q2.2.2))]) (zV (wc := [(pp, .inr (6, [.ref dd, .ref rr, .ref kc, .ref mm, .ref oo, .ref tt, .ref ww])), (dd, .inr (1, [.ref da, .int dn])), (da, .inl (cI, 64, .inl q3))]) (As := [.int (-59)]) (rest := []) (st0 := [.int (-59), .ref pp]) ⟨hx, hb, hml, hown, hT⟩ (c_Prim_put l D cI cJ cZ cW cT H.size pp dd rr kc mm oo tt ww da dn q3 (-59) hid) (cwV 1 hT (tbV ml_Primitives_119 im_Primitives_put se_Primitives_put in_Primitives co_Primitives_put) rfl rfl rfl v_Primitives_put ⟨Nat.le_of_ble_eq_true rfl, Nat.le_of_ble_eq_true rfl⟩) hK hE hP hD hS hA [0, 1, 2] rfl rfl 0 rfl rfl rfl hl.1 rfl (Nat.le_of_ble_eq_true rfl) d_Primitives_allocate_36 ⟨Nat.le_of_ble_eq_true rfl, Nat.le_of_ble_eq_true rfl⟩) hP hD hS hA [0, 1, 2] [3, 4, 5] rfl rfl rfl (by decide) [3, 4, 5, 0, 1, 2] rfl (fun u => rfl) (fun q6 H locs e6 k6 hP hD hS => ?_)
    have hP : va_P D classes [(pp, .inr (6, [.ref dd, .ref rr, .ref kc, .ref mm, .ref oo, .ref tt, .ref ww])), (dd, .inr (1, [.ref da, .int q6.2.1])), (da, .inl (cI, 64, .inl q6.2.2)), (mm, .inr (4, [.ref ma, .ref mb, .int he])), (ma, .inl (cI, 1000, .inl q2.2.1)), (mb, .inl (cI, 600, .inl q2.2.2))] H := hP
    have hD : va_D A [(pp, .inr (6, [.ref dd, .ref rr, .ref kc, .ref mm, .ref oo, .ref tt, .ref ww])), (dd, .inr (1, [.ref da, .int q6.2.1])), (da, .inl (cI, 64, .inl q6.2.2)), (mm, .inr (4, [.ref ma, .ref mb, .int he])), (ma, .inl (cI, 1000, .inl q2.2.1)), (mb, .inl (cI, 600, .inl q2.2.2))] := hD
    have hF := hF.trans (bd_e e6)
    exact W.iret (v := q6.1) hx hb hr (fun t ht hW => ⟨⟨_, _, rfl, ⟨hF.symm, k6⟩, ⟨by rw [ht]; exact hP, va_K.moved hW.alike hK, hD⟩⟩, hS.F ht⟩) hS.2.2 d_Primitives_allocate_39
/-- the picture of ColonMachine$Primitives.free -/
def F_Prim_free (dn : Int32) (df : Nat → Int32) (fb : Nat → Int32) : Int32 × (Nat → Int32) × (Nat → Int32) := bd (F_Cells_at dn df 0) (fun q1 => bd (F_Memory_free fb q1) (fun q2 => if q2.1 = 0 then (bd (F_Cells_set dn df 0 (-60)) (fun q4 => (0, (q4, q2.2)))) else (bd (F_Cells_set dn df 0 0) (fun q5 => (0, (q5, q2.2))))))
theorem F_Prim_free_e (dn : Int32) (df : Nat → Int32) (fb : Nat → Int32) : F_Prim_free dn df fb = bd (F_Cells_at dn df 0) (fun q1 => bd (F_Memory_free fb q1) (fun q2 => if q2.1 = 0 then (bd (F_Cells_set dn df 0 (-60)) (fun q4 => (0, (q4, q2.2)))) else (bd (F_Cells_set dn df 0 0) (fun q5 => (0, (q5, q2.2)))))) := rfl
set_option maxHeartbeats 4000000 in
set_option maxRecDepth 100000 in
theorem c_Prim_free (l : Launch) (D : va_G) (cI cJ cZ cW cT : ClassId) (sz : Nat) (pp : Nat) (dd : Nat) (rr : Nat) (kc : Nat) (mm : Nat) (oo : Nat) (tt : Nat) (ww : Nat) (da : Nat) (ma : Nat) (mb : Nat) (dn : Int32) (df : Nat → Int32) (he : Int32) (fb : Nat → Int32) (hid : CellsOk 64 dn) (him : MemOk he) : Met l y_Primitives_free w_Primitives_free ({ frames := 2, cells := 0, slots := 0, locals := 45 }) (va_Pc [.ref pp] (zP D classes (TY cI cJ cZ cW cT) [(pp, .inr (6, [.ref dd, .ref rr, .ref kc, .ref mm, .ref oo, .ref tt, .ref ww])), (dd, .inr (1, [.ref da, .int dn])), (da, .inl (cI, 64, .inl df)), (mm, .inr (4, [.ref ma, .ref mb, .int he])), (mb, .inl (cI, 600, .inl fb))] sz)) (va_Qi (fun (r : Int32) (u : (Nat → Int32) × (Nat → Int32)) => (r, u) = F_Prim_free dn df fb ∧ (True)) (fun u => zB D classes (TY cI cJ cZ cW cT) (va_A [(pp, .inr (6, [.ref dd, .ref rr, .ref kc, .ref mm, .ref oo, .ref tt, .ref ww])), (dd, .inr (1, [.ref da, .int dn])), (da, .inl (cI, 64, .inl df)), (mm, .inr (4, [.ref ma, .ref mb, .int he])), (mb, .inl (cI, 600, .inl fb))] sz) [(pp, .inr (6, [.ref dd, .ref rr, .ref kc, .ref mm, .ref oo, .ref tt, .ref ww])), (dd, .inr (1, [.ref da, .int dn])), (da, .inl (cI, 64, .inl u.1)), (mm, .inr (4, [.ref ma, .ref mb, .int he])), (mb, .inl (cI, 600, .inl u.2))]) (va_A [(pp, .inr (6, [.ref dd, .ref rr, .ref kc, .ref mm, .ref oo, .ref tt, .ref ww])), (dd, .inr (1, [.ref da, .int dn])), (da, .inl (cI, 64, .inl df)), (mm, .inr (4, [.ref ma, .ref mb, .int he])), (mb, .inl (cI, 600, .inl fb))] sz)) 0 0 (va_A [(pp, .inr (6, [.ref dd, .ref rr, .ref kc, .ref mm, .ref oo, .ref tt, .ref ww])), (dd, .inr (1, [.ref da, .int dn])), (da, .inl (cI, 64, .inl df)), (mm, .inr (4, [.ref ma, .ref mb, .int he])), (mb, .inl (cI, 600, .inl fb))] sz) := by
  refine Met.ofW (cc := b_Primitives_free) (maxL := 1) (ret := (some .int)) (by decide) rfl ?_
  intro p e s m args below meth c s₁ B hml hv
  obtain ⟨rfl, hsz, hP, hK, hD0, hE⟩ := hv
  have hx := B.exec
  have hb := B.bytes
  have hr := B.returns
  have hts := atoms_spec (ws := w_Primitives_free) B.pre
  have hT : ∀ w ∈ TB, w.before _ s = true := fun w h => hts w (List.mem_cons_of_mem _ h)
  have hown : s.vm.findClass "ColonMachine$Primitives" = some m.cls := findClass_of_methodNamed B.named
  have hlocks := B.notSynchronized
  subst hsz
  have hD := hD0.self (sz := s.heap.size)
  generalize hAe : va_A [(pp, .inr (6, [.ref dd, .ref rr, .ref kc, .ref mm, .ref oo, .ref tt, .ref ww])), (dd, .inr (1, [.ref da, .int dn])), (da, .inl (cI, 64, .inl df)), (mm, .inr (4, [.ref ma, .ref mb, .int he])), (mb, .inl (cI, 600, .inl fb))] s.heap.size = A at hD hE ⊢
  have hA : ∀ q : Nat, s.heap.size ≤ q → A q := fun q h => by rw [← hAe]; exact Or.inr h
  have hS : va_S A s.heap s.heap [] := va_S.rf
  have hl := lv_entry [.ref pp] (n := 1) (Nat.le_of_ble_eq_true rfl)
  rw [lg_entry_eq]
  generalize (lg_sl [.ref pp] ++ List.replicate (1 - (lg_sl [.ref pp]).length) Slot.unset).toArray = ls at hl ⊢
  have hl : lv_has ls 1 [(0, .ref pp)] := hl
  have hF := F_Prim_free_e dn df fb
  refine lv_aload_n hx hb d_Primitives_free_0 rfl (lv_at hl 0 rfl) ?_
  refine va_get (D := D) (v := .ref dd) (C := "ColonMachine$Primitives") (T := T_Primitives) (N := 7) hx hb hT i_Primitives hown hK hP 0 rfl rfl 0 (by decide) (hT _ fl_Primitives_9) (fun _ h9 => h9) rfl d_Primitives_free_1 ?_
  refine lv_iconst (v := 0) hx hb d_Primitives_free_4 (by decide) ?_
  refine lv_aload_n hx hb d_Primitives_free_5 rfl (lv_at hl 0 rfl) ?_
  refine va_get (D := D) (v := .ref mm) (C := "ColonMachine$Primitives") (T := T_Primitives) (N := 7) hx hb hT i_Primitives hown hK hP 0 rfl rfl 3 (by decide) (hT _ fl_Primitives_22) (fun _ h9 => h9) rfl d_Primitives_free_6 ?_
  refine lv_aload_n hx hb d_Primitives_free_9 rfl (lv_at hl 0 rfl) ?_
  refine va_get (D := D) (v := .ref dd) (C := "ColonMachine$Primitives") (T := T_Primitives) (N := 7) hx hb hT i_Primitives hown hK hP 0 rfl rfl 0 (by decide) (hT _ fl_Primitives_9) (fun _ h9 => h9) rfl d_Primitives_free_10 ?_
  refine lv_iconst (v := 0) hx hb d_Primitives_free_13 (by decide) ?_
  refine kN_pi (wr := [(pp, .inr (6, [.ref dd, .ref rr, .ref kc, .ref mm, .ref oo, .ref tt, .ref ww])), (mm, .inr (4, [.ref ma, .ref mb, .int he])), (mb, .inl (cI, 600, .inl fb))]) (zV (wc := [(dd, .inr (1, [.ref da, .int dn])), (da, .inl (cI, 64, .inl df))]) (As := [.int 0]) (rest := [.ref mm, .int 0, .ref dd]) (st0 := [.int 0, .ref dd, .ref mm, .int 0, .ref dd]) ⟨hx, hb, hml, hown, hT⟩ (c_Cells_at l D cI cJ cZ cW cT s.heap.size dd da 64 dn df 0 hid) (cwV 1 hT (tbV ml_Primitives_116 im_Cells_at se_Cells_at in_Cells co_Cells_at) rfl rfl rfl v_Cells_at ⟨Nat.le_of_ble_eq_true rfl, Nat.le_of_ble_eq_true rfl⟩) hK hE hP hD hS hA [1, 2] rfl rfl 0 rfl rfl rfl hl.1 rfl (Nat.le_of_ble_eq_true rfl) d_Primitives_free_14 ⟨Nat.le_of_ble_eq_true rfl, Nat.le_of_ble_eq_true rfl⟩) hP hD hS hA [1, 2] [0, 3, 4] rfl rfl rfl (by decide) [0, 3, 4, 1, 2] rfl rfl (fun q1 H locs e1 k1 hP hD hS => ?_)
  have hP : va_P D classes [(pp, .inr (6, [.ref dd, .ref rr, .ref kc, .ref mm, .ref oo, .ref tt, .ref ww])), (dd, .inr (1, [.ref da, .int dn])), (da, .inl (cI, 64, .inl df)), (mm, .inr (4, [.ref ma, .ref mb, .int he])), (mb, .inl (cI, 600, .inl fb))] H := hP
  have hD : va_D A [(pp, .inr (6, [.ref dd, .ref rr, .ref kc, .ref mm, .ref oo, .ref tt, .ref ww])), (dd, .inr (1, [.ref da, .int dn])), (da, .inl (cI, 64, .inl df)), (mm, .inr (4, [.ref ma, .ref mb, .int he])), (mb, .inl (cI, 600, .inl fb))] := hD
  have hF := hF.trans (bd_e e1)
  refine kN_si (wr := [(pp, .inr (6, [.ref dd, .ref rr, .ref kc, .ref mm, .ref oo, .ref tt, .ref ww])), (dd, .inr (1, [.ref da, .int dn])), (da, .inl (cI, 64, .inl df))]) (fun u : (Nat → Int32) => [(pp, .inr (6, [.ref dd, .ref rr, .ref kc, .ref mm, .ref oo, .ref tt, .ref ww])), (dd, .inr (1, [.ref da, .int dn])), (da, .inl (cI, 64, .inl df)), (mm, .inr (4, [.ref ma, .ref mb, .int he])), (mb, .inl (cI, 600, .inl u))]) (zV (wc := [(mm, .inr (4, [.ref ma, .ref mb, .int he])), (mb, .inl (cI, 600, .inl fb))]) (As := [.int q1]) (rest := [.int 0, .ref dd]) (st0 := [.int q1, .ref mm, .int 0, .ref dd]) ⟨hx, hb, hml, hown, hT⟩ (c_Memory_free l D cI cJ cZ cW cT H.size mm ma mb he fb q1 him) (cwV 1 hT (tbV ml_Primitives_244 im_Memory_free se_Memory_free in_Memory co_Memory_free) rfl rfl rfl v_Memory_free ⟨Nat.le_of_ble_eq_true rfl, Nat.le_of_ble_eq_true rfl⟩) hK hE hP hD hS hA [3, 4] rfl rfl 0 rfl rfl rfl hl.1 rfl (Nat.le_of_ble_eq_true rfl) d_Primitives_free_17 ⟨Nat.le_of_ble_eq_true rfl, Nat.le_of_ble_eq_true rfl⟩) hP hD hS hA [3, 4] [0, 1, 2] rfl rfl rfl (by decide) [0, 1, 2, 3, 4] rfl (fun u => rfl) (fun q2 H locs e2 k2 hP hD hS => ?_)
  have hP : va_P D classes [(pp, .inr (6, [.ref dd, .ref rr, .ref kc, .ref mm, .ref oo, .ref tt, .ref ww])), (dd, .inr (1, [.ref da, .int dn])), (da, .inl (cI, 64, .inl df)), (mm, .inr (4, [.ref ma, .ref mb, .int he])), (mb, .inl (cI, 600, .inl q2.2))] H := hP
  have hD : va_D A [(pp, .inr (6, [.ref dd, .ref rr, .ref kc, .ref mm, .ref oo, .ref tt, .ref ww])), (dd, .inr (1, [.ref da, .int dn])), (da, .inl (cI, 64, .inl df)), (mm, .inr (4, [.ref ma, .ref mb, .int he])), (mb, .inl (cI, 600, .inl q2.2))] := hD
  have hF := hF.trans (bd_e e2)
  refine lv_if_eq (tgt := 27) hx hb d_Primitives_free_20 (by decide) (fun c3 => ?_) (fun c3 => ?_)
  · have hF := hF.trans (if_pos c3)
    refine lv_bipush (v := (-60)) hx hb d_Primitives_free_27 (by decide) ?_
    refine kN_sv (wr := [(pp, .inr (6, [.ref dd, .ref rr, .ref kc, .ref mm, .ref oo, .ref tt, .ref ww])), (mm, .inr (4, [.ref ma, .ref mb, .int he])), (mb, .inl (cI, 600, .inl q2.2))]) (fun u : (Nat → Int32) => [(pp, .inr (6, [.ref dd, .ref rr, .ref kc, .ref mm, .ref oo, .ref tt, .ref ww])), (dd, .inr (1, [.ref da, .int dn])), (da, .inl (cI, 64, .inl u)), (mm, .inr (4, [.ref ma, .ref mb, .int he])), (mb, .inl (cI, 600, .inl q2.2))]) (zV (wc := [(dd, .inr (1, [.ref da, .int dn])), (da, .inl (cI, 64, .inl df))]) (As := [.int 0, .int (-60)]) (rest := []) (st0 := [.int (-60), .int 0, .ref dd]) ⟨hx, hb, hml, hown, hT⟩ (c_Cells_set l D cI cJ cZ cW cT H.size dd da 64 dn df 0 (-60) hid) (cwV 2 hT (tbV ml_Primitives_152 im_Cells_set se_Cells_set in_Cells co_Cells_set) rfl rfl rfl v_Cells_set ⟨Nat.le_of_ble_eq_true rfl, Nat.le_of_ble_eq_true rfl⟩) hK hE hP hD hS hA [1, 2] rfl rfl 0 rfl rfl rfl hl.1 rfl (Nat.le_of_ble_eq_true rfl) d_Primitives_free_29 ⟨Nat.le_of_ble_eq_true rfl, Nat.le_of_ble_eq_true rfl⟩) hP hD hS hA [1, 2] [0, 3, 4] rfl rfl rfl (by decide) [0, 3, 4, 1, 2] rfl (fun u => rfl) (fun q4 H locs e4 k4 hP hD hS => ?_)
    have hP : va_P D classes [(pp, .inr (6, [.ref dd, .ref rr, .ref kc, .ref mm, .ref oo, .ref tt, .ref ww])), (dd, .inr (1, [.ref da, .int dn])), (da, .inl (cI, 64, .inl q4)), (mm, .inr (4, [.ref ma, .ref mb, .int he])), (mb, .inl (cI, 600, .inl q2.2))] H := hP
    have hD : va_D A [(pp, .inr (6, [.ref dd, .ref rr, .ref kc, .ref mm, .ref oo, .ref tt, .ref ww])), (dd, .inr (1, [.ref da, .int dn])), (da, .inl (cI, 64, .inl q4)), (mm, .inr (4, [.ref ma, .ref mb, .int he])), (mb, .inl (cI, 600, .inl q2.2))] := hD
    have hF := hF.trans (bd_e e4)
    refine lv_iconst (v := 0) hx hb d_Primitives_free_32 (by decide) ?_
    exact W.iret (v := 0) hx hb hr (fun t ht hW => ⟨⟨_, _, rfl, ⟨hF.symm, trivial⟩, ⟨by rw [ht]; exact hP, va_K.moved hW.alike hK, hD⟩⟩, hS.F ht⟩) hS.2.2 d_Primitives_free_33
  · have hF := hF.trans (if_neg c3)
    refine lv_iconst (v := 0) hx hb d_Primitives_free_23 (by decide) ?_
    refine lv_goto (tgt := 29) hx hb d_Primitives_free_24 (by decide) ?_
    refine kN_sv (wr := [(pp, .inr (6, [.ref dd, .ref rr, .ref kc, .ref mm, .ref oo, .ref tt, .ref ww])), (mm, .inr (4, [.ref ma, .ref mb, .int he])), (mb, .inl (cI, 600, .inl q2.2))]) (fun u : (Nat → Int32) => [(pp, .inr (6, [.ref dd, .ref rr, .ref kc, .ref mm, .ref oo, .ref tt, .ref ww])), (dd, .inr (1, [.ref da, .int dn])), (da, .inl (cI, 64, .inl u)), (mm, .inr (4, [.ref ma, .ref mb, .int he])), (mb, .inl (cI, 600, .inl q2.2))]) (zV (wc := [(dd, .inr (1, [.ref da, .int dn])), (da, .inl (cI, 64, .inl df))]) (As := [.int 0, .int 0]) (rest := []) (st0 := [.int 0, .int 0, .ref dd]) ⟨hx, hb, hml, hown, hT⟩ (c_Cells_set l D cI cJ cZ cW cT H.size dd da 64 dn df 0 0 hid) (cwV 2 hT (tbV ml_Primitives_152 im_Cells_set se_Cells_set in_Cells co_Cells_set) rfl rfl rfl v_Cells_set ⟨Nat.le_of_ble_eq_true rfl, Nat.le_of_ble_eq_true rfl⟩) hK hE hP hD hS hA [1, 2] rfl rfl 0 rfl rfl rfl hl.1 rfl (Nat.le_of_ble_eq_true rfl) d_Primitives_free_29 ⟨Nat.le_of_ble_eq_true rfl, Nat.le_of_ble_eq_true rfl⟩) hP hD hS hA [1, 2] [0, 3, 4] rfl rfl rfl (by decide) [0, 3, 4, 1, 2] rfl (fun u => rfl) (fun q5 H locs e5 k5 hP hD hS => ?_)
    have hP : va_P D classes [(pp, .inr (6, [.ref dd, .ref rr, .ref kc, .ref mm, .ref oo, .ref tt, .ref ww])), (dd, .inr (1, [.ref da, .int dn])), (da, .inl (cI, 64, .inl q5)), (mm, .inr (4, [.ref ma, .ref mb, .int he])), (mb, .inl (cI, 600, .inl q2.2))] H := hP
    have hD : va_D A [(pp, .inr (6, [.ref dd, .ref rr, .ref kc, .ref mm, .ref oo, .ref tt, .ref ww])), (dd, .inr (1, [.ref da, .int dn])), (da, .inl (cI, 64, .inl q5)), (mm, .inr (4, [.ref ma, .ref mb, .int he])), (mb, .inl (cI, 600, .inl q2.2))] := hD
    have hF := hF.trans (bd_e e5)
    refine lv_iconst (v := 0) hx hb d_Primitives_free_32 (by decide) ?_
    exact W.iret (v := 0) hx hb hr (fun t ht hW => ⟨⟨_, _, rfl, ⟨hF.symm, trivial⟩, ⟨by rw [ht]; exact hP, va_K.moved hW.alike hK, hD⟩⟩, hS.F ht⟩) hS.2.2 d_Primitives_free_33
/-- the picture of ColonMachine$Primitives.resize -/
def F_Prim_resize (dn : Int32) (df : Nat → Int32) (fc : Nat → Int32) (fb : Nat → Int32) : Int32 × (Nat → Int32) × (Nat → Int32) × (Nat → Int32) := bd (F_Cells_at dn df 1) (fun q1 => bd (F_Cells_at dn df 0) (fun q2 => bd (F_Memory_resize fc fb q1 q2) (fun q3 => if q3.1 = 0 then (bd (F_Cells_set dn df 0 (-61)) (fun q7 => (0, (q7, q3.2.1, q3.2.2)))) else (bd (F_Cells_set dn df 1 q3.1) (fun q5 => bd (F_Cells_set dn q5 0 0) (fun q6 => (0, (q6, q3.2.1, q3.2.2))))))))
theorem F_Prim_resize_e (dn : Int32) (df : Nat → Int32) (fc : Nat → Int32) (fb : Nat → Int32) : F_Prim_resize dn df fc fb = bd (F_Cells_at dn df 1) (fun q1 => bd (F_Cells_at dn df 0) (fun q2 => bd (F_Memory_resize fc fb q1 q2) (fun q3 => if q3.1 = 0 then (bd (F_Cells_set dn df 0 (-61)) (fun q7 => (0, (q7, q3.2.1, q3.2.2)))) else (bd (F_Cells_set dn df 1 q3.1) (fun q5 => bd (F_Cells_set dn q5 0 0) (fun q6 => (0, (q6, q3.2.1, q3.2.2)))))))) := rfl
set_option maxHeartbeats 4000000 in
set_option maxRecDepth 100000 in
theorem c_Prim_resize (l : Launch) (D : va_G) (cI cJ cZ cW cT : ClassId) (sz : Nat) (pp : Nat) (dd : Nat) (rr : Nat) (kc : Nat) (mm : Nat) (oo : Nat) (tt : Nat) (ww : Nat) (da : Nat) (ma : Nat) (mb : Nat) (dn : Int32) (df : Nat → Int32) (he : Int32) (fc : Nat → Int32) (fb : Nat → Int32) (hid : CellsOk 64 dn) (him : MemOk he) : Met l y_Primitives_resize w_Primitives_resize ({ frames := 4, cells := 0, slots := 0, locals := 93 }) (va_Pc [.ref pp] (zP D classes (TY cI cJ cZ cW cT) [(pp, .inr (6, [.ref dd, .ref rr, .ref kc, .ref mm, .ref oo, .ref tt, .ref ww])), (dd, .inr (1, [.ref da, .int dn])), (da, .inl (cI, 64, .inl df)), (mm, .inr (4, [.ref ma, .ref mb, .int he])), (ma, .inl (cI, 1000, .inl fc)), (mb, .inl (cI, 600, .inl fb))] sz)) (va_Qi (fun (r : Int32) (u : (Nat → Int32) × (Nat → Int32) × (Nat → Int32)) => (r, u) = F_Prim_resize dn df fc fb ∧ (True)) (fun u => zB D classes (TY cI cJ cZ cW cT) (va_A [(pp, .inr (6, [.ref dd, .ref rr, .ref kc, .ref mm, .ref oo, .ref tt, .ref ww])), (dd, .inr (1, [.ref da, .int dn])), (da, .inl (cI, 64, .inl df)), (mm, .inr (4, [.ref ma, .ref mb, .int he])), (ma, .inl (cI, 1000, .inl fc)), (mb, .inl (cI, 600, .inl fb))] sz) [(pp, .inr (6, [.ref dd, .ref rr, .ref kc, .ref mm, .ref oo, .ref tt, .ref ww])), (dd, .inr (1, [.ref da, .int dn])), (da, .inl (cI, 64, .inl u.1)), (mm, .inr (4, [.ref ma, .ref mb, .int he])), (ma, .inl (cI, 1000, .inl u.2.1)), (mb, .inl (cI, 600, .inl u.2.2))]) (va_A [(pp, .inr (6, [.ref dd, .ref rr, .ref kc, .ref mm, .ref oo, .ref tt, .ref ww])), (dd, .inr (1, [.ref da, .int dn])), (da, .inl (cI, 64, .inl df)), (mm, .inr (4, [.ref ma, .ref mb, .int he])), (ma, .inl (cI, 1000, .inl fc)), (mb, .inl (cI, 600, .inl fb))] sz)) 0 0 (va_A [(pp, .inr (6, [.ref dd, .ref rr, .ref kc, .ref mm, .ref oo, .ref tt, .ref ww])), (dd, .inr (1, [.ref da, .int dn])), (da, .inl (cI, 64, .inl df)), (mm, .inr (4, [.ref ma, .ref mb, .int he])), (ma, .inl (cI, 1000, .inl fc)), (mb, .inl (cI, 600, .inl fb))] sz) := by
  refine Met.ofW (cc := b_Primitives_resize) (maxL := 2) (ret := (some .int)) (by decide) rfl ?_
  intro p e s m args below meth c s₁ B hml hv
  obtain ⟨rfl, hsz, hP, hK, hD0, hE⟩ := hv
  have hx := B.exec
  have hb := B.bytes
  have hr := B.returns
  have hts := atoms_spec (ws := w_Primitives_resize) B.pre
  have hT : ∀ w ∈ TB, w.before _ s = true := fun w h => hts w (List.mem_cons_of_mem _ h)
  have hown : s.vm.findClass "ColonMachine$Primitives" = some m.cls := findClass_of_methodNamed B.named
  have hlocks := B.notSynchronized
  subst hsz
  have hD := hD0.self (sz := s.heap.size)
  generalize hAe : va_A [(pp, .inr (6, [.ref dd, .ref rr, .ref kc, .ref mm, .ref oo, .ref tt, .ref ww])), (dd, .inr (1, [.ref da, .int dn])), (da, .inl (cI, 64, .inl df)), (mm, .inr (4, [.ref ma, .ref mb, .int he])), (ma, .inl (cI, 1000, .inl fc)), (mb, .inl (cI, 600, .inl fb))] s.heap.size = A at hD hE ⊢
  have hA : ∀ q : Nat, s.heap.size ≤ q → A q := fun q h => by rw [← hAe]; exact Or.inr h
  have hS : va_S A s.heap s.heap [] := va_S.rf
  have hl := lv_entry [.ref pp] (n := 2) (Nat.le_of_ble_eq_true rfl)
  rw [lg_entry_eq]
  generalize (lg_sl [.ref pp] ++ List.replicate (2 - (lg_sl [.ref pp]).length) Slot.unset).toArray = ls at hl ⊢
  have hl : lv_has ls 2 [(0, .ref pp)] := hl
  have hF := F_Prim_resize_e dn df fc fb
  refine lv_aload_n hx hb d_Primitives_resize_0 rfl (lv_at hl 0 rfl) ?_
  refine va_get (D := D) (v := .ref mm) (C := "ColonMachine$Primitives") (T := T_Primitives) (N := 7) hx hb hT i_Primitives hown hK hP 0 rfl rfl 3 (by decide) (hT _ fl_Primitives_22) (fun _ h9 => h9) rfl d_Primitives_resize_1 ?_
  refine lv_aload_n hx hb d_Primitives_resize_4 rfl (lv_at hl 0 rfl) ?_
  refine va_get (D := D) (v := .ref dd) (C := "ColonMachine$Primitives") (T := T_Primitives) (N := 7) hx hb hT i_Primitives hown hK hP 0 rfl rfl 0 (by decide) (hT _ fl_Primitives_9) (fun _ h9 => h9) rfl d_Primitives_resize_5 ?_
  refine lv_iconst (v := 1) hx hb d_Primitives_resize_8 (by decide) ?_
  refine kN_pi (wr := [(pp, .inr (6, [.ref dd, .ref rr, .ref kc, .ref mm, .ref oo, .ref tt, .ref ww])), (mm, .inr (4, [.ref ma, .ref mb, .int he])), (ma, .inl (cI, 1000, .inl fc)), (mb, .inl (cI, 600, .inl fb))]) (zV (wc := [(dd, .inr (1, [.ref da, .int dn])), (da, .inl (cI, 64, .inl df))]) (As := [.int 1]) (rest := [.ref mm]) (st0 := [.int 1, .ref dd, .ref mm]) ⟨hx, hb, hml, hown, hT⟩ (c_Cells_at l D cI cJ cZ cW cT s.heap.size dd da 64 dn df 1 hid) (cwV 1 hT (tbV ml_Primitives_116 im_Cells_at se_Cells_at in_Cells co_Cells_at) rfl rfl rfl v_Cells_at ⟨Nat.le_of_ble_eq_true rfl, Nat.le_of_ble_eq_true rfl⟩) hK hE hP hD hS hA [1, 2] rfl rfl 0 rfl rfl rfl hl.1 rfl (Nat.le_of_ble_eq_true rfl) d_Primitives_resize_9 ⟨Nat.le_of_ble_eq_true rfl, Nat.le_of_ble_eq_true rfl⟩) hP hD hS hA [1, 2] [0, 3, 4, 5] rfl rfl rfl (by decide) [0, 4, 5, 1, 2, 3] rfl rfl (fun q1 H locs e1 k1 hP hD hS => ?_)
  have hP : va_P D classes [(pp, .inr (6, [.ref dd, .ref rr, .ref kc, .ref mm, .ref oo, .ref tt, .ref ww])), (dd, .inr (1, [.ref da, .int dn])), (da, .inl (cI, 64, .inl df)), (mm, .inr (4, [.ref ma, .ref mb, .int he])), (ma, .inl (cI, 1000, .inl fc)), (mb, .inl (cI, 600, .inl fb))] H := hP
  have hD : va_D A [(pp, .inr (6, [.ref dd, .ref rr, .ref kc, .ref mm, .ref oo, .ref tt, .ref ww])), (dd, .inr (1, [.ref da, .int dn])), (da, .inl (cI, 64, .inl df)), (mm, .inr (4, [.ref ma, .ref mb, .int he])), (ma, .inl (cI, 1000, .inl fc)), (mb, .inl (cI, 600, .inl fb))] := hD
  have hF := hF.trans (bd_e e1)
  refine lv_aload_n hx hb d_Primitives_resize_12 rfl (lv_at hl 0 rfl) ?_
  refine va_get (D := D) (v := .ref dd) (C := "ColonMachine$Primitives") (T := T_Primitives) (N := 7) hx hb hT i_Primitives hown hK hP 0 rfl rfl 0 (by decide) (hT _ fl_Primitives_9) (fun _ h9 => h9) rfl d_Primitives_resize_13 ?_
  refine lv_iconst (v := 0) hx hb d_Primitives_resize_16 (by decide) ?_
  refine kN_pi (wr := [(pp, .inr (6, [.ref dd, .ref rr, .ref kc, .ref mm, .ref oo, .ref tt, .ref ww])), (mm, .inr (4, [.ref ma, .ref mb, .int he])), (ma, .inl (cI, 1000, .inl fc)), (mb, .inl (cI, 600, .inl fb))]) (zV (wc := [(dd, .inr (1, [.ref da, .int dn])), (da, .inl (cI, 64, .inl df))]) (As := [.int 0]) (rest := [.int q1, .ref mm]) (st0 := [.int 0, .ref dd, .int q1, .ref mm]) ⟨hx, hb, hml, hown, hT⟩ (c_Cells_at l D cI cJ cZ cW cT H.size dd da 64 dn df 0 hid) (cwV 1 hT (tbV ml_Primitives_116 im_Cells_at se_Cells_at in_Cells co_Cells_at) rfl rfl rfl v_Cells_at ⟨Nat.le_of_ble_eq_true rfl, Nat.le_of_ble_eq_true rfl⟩) hK hE hP hD hS hA [1, 2] rfl rfl 0 rfl rfl rfl hl.1 rfl (Nat.le_of_ble_eq_true rfl) d_Primitives_resize_17 ⟨Nat.le_of_ble_eq_true rfl, Nat.le_of_ble_eq_true rfl⟩) hP hD hS hA [1, 2] [0, 3, 4, 5] rfl rfl rfl (by decide) [0, 4, 5, 1, 2, 3] rfl rfl (fun q2 H locs e2 k2 hP hD hS => ?_)
  have hP : va_P D classes [(pp, .inr (6, [.ref dd, .ref rr, .ref kc, .ref mm, .ref oo, .ref tt, .ref ww])), (dd, .inr (1, [.ref da, .int dn])), (da, .inl (cI, 64, .inl df)), (mm, .inr (4, [.ref ma, .ref mb, .int he])), (ma, .inl (cI, 1000, .inl fc)), (mb, .inl (cI, 600, .inl fb))] H := hP
  have hD : va_D A [(pp, .inr (6, [.ref dd, .ref rr, .ref kc, .ref mm, .ref oo, .ref tt, .ref ww])), (dd, .inr (1, [.ref da, .int dn])), (da, .inl (cI, 64, .inl df)), (mm, .inr (4, [.ref ma, .ref mb, .int he])), (ma, .inl (cI, 1000, .inl fc)), (mb, .inl (cI, 600, .inl fb))] := hD
  have hF := hF.trans (bd_e e2)
  refine kN_si (wr := [(pp, .inr (6, [.ref dd, .ref rr, .ref kc, .ref mm, .ref oo, .ref tt, .ref ww])), (dd, .inr (1, [.ref da, .int dn])), (da, .inl (cI, 64, .inl df))]) (fun u : (Nat → Int32) × (Nat → Int32) => [(pp, .inr (6, [.ref dd, .ref rr, .ref kc, .ref mm, .ref oo, .ref tt, .ref ww])), (dd, .inr (1, [.ref da, .int dn])), (da, .inl (cI, 64, .inl df)), (mm, .inr (4, [.ref ma, .ref mb, .int he])), (ma, .inl (cI, 1000, .inl u.1)), (mb, .inl (cI, 600, .inl u.2))]) (zV (wc := [(mm, .inr (4, [.ref ma, .ref mb, .int he])), (ma, .inl (cI, 1000, .inl fc)), (mb, .inl (cI, 600, .inl fb))]) (As := [.int q1, .int q2]) (rest := []) (st0 := [.int q2, .int q1, .ref mm]) ⟨hx, hb, hml, hown, hT⟩ (c_Memory_resize l D cI cJ cZ cW cT H.size mm ma mb he fc fb q1 q2 him) (cwV 2 hT (tbV ml_Primitives_246 im_Memory_resize se_Memory_resize in_Memory co_Memory_resize) rfl rfl rfl v_Memory_resize ⟨Nat.le_of_ble_eq_true rfl, Nat.le_of_ble_eq_true rfl⟩) hK hE hP hD hS hA [3, 4, 5] rfl rfl 0 rfl rfl rfl hl.1 rfl (Nat.le_of_ble_eq_true rfl) d_Primitives_resize_20 ⟨Nat.le_of_ble_eq_true rfl, Nat.le_of_ble_eq_true rfl⟩) hP hD hS hA [3, 4, 5] [0, 1, 2] rfl rfl rfl (by decide) [0, 1, 2, 3, 4, 5] rfl (fun u => rfl) (fun q3 H locs e3 k3 hP hD hS => ?_)
  have hP : va_P D classes [(pp, .inr (6, [.ref dd, .ref rr, .ref kc, .ref mm, .ref oo, .ref tt, .ref ww])), (dd, .inr (1, [.ref da, .int dn])), (da, .inl (cI, 64, .inl df)), (mm, .inr (4, [.ref ma, .ref mb, .int he])), (ma, .inl (cI, 1000, .inl q3.2.1)), (mb, .inl (cI, 600, .inl q3.2.2))] H := hP
  have hD : va_D A [(pp, .inr (6, [.ref dd, .ref rr, .ref kc, .ref mm, .ref oo, .ref tt, .ref ww])), (dd, .inr (1, [.ref da, .int dn])), (da, .inl (cI, 64, .inl df)), (mm, .inr (4, [.ref ma, .ref mb, .int he])), (ma, .inl (cI, 1000, .inl q3.2.1)), (mb, .inl (cI, 600, .inl q3.2.2))] := hD
  have hF := hF.trans (bd_e e3)
  refine lv_istore_n (lv' := [(1, .int q3.1), (0, .ref pp)]) hx hb d_Primitives_resize_23 rfl hl (by decide) rfl (fun ls hl => ?_)
  refine lv_iload_n hx hb d_Primitives_resize_24 rfl (lv_at hl 0 rfl) ?_
  refine lv_if_ne (tgt := 40) hx hb d_Primitives_resize_25 (by decide) (fun c4 => ?_) (fun c4 => ?_)
  · have hF := hF.trans (if_neg c4)
    refine lv_aload_n hx hb d_Primitives_resize_40 rfl (lv_at hl 1 rfl) ?_
    refine va_get (D := D) (v := .ref dd) (C := "ColonMachine$Primitives") (T := T_Primitives) (N := 7) hx hb hT i_Primitives hown hK hP 0 rfl rfl 0 (by decide) (hT _ fl_Primitives_9) (fun _ h9 => h9) rfl d_Primitives_resize_41 ?_
    refine lv_iconst (v := 1) hx hb d_Primitives_resize_44 (by decide) ?_
    refine lv_iload_n hx hb d_Primitives_resize_45 rfl (lv_at hl 0 rfl) ?_
    refine kN_sv (wr := [(pp, .inr (6, [.ref dd, .ref rr, .ref kc, .ref mm, .ref oo, .ref tt, .ref ww])), (mm, .inr (4, [.ref ma, .ref mb, .int he])), (ma, .inl (cI, 1000, .inl q3.2.1)), (mb, .inl (cI, 600, .inl q3.2.2))]) (fun u : (Nat → Int32) => [(pp, .inr (6, [.ref dd, .ref rr, .ref kc, .ref mm, .ref oo, .ref tt, .ref ww])), (dd, .inr (1, [.ref da, .int dn])), (da, .inl (cI, 64, .inl u)), (mm, .inr (4, [.ref ma, .ref mb, .int he])), (ma, .inl (cI, 1000, .inl q3.2.1)), (mb, .inl (cI, 600, .inl q3.2.2))]) (zV (wc := [(dd, .inr (1, [.ref da, .int dn])), (da, .inl (cI, 64, .inl df))]) (As := [.int 1, .int q3.1]) (rest := []) (st0 := [.int q3.1, .int 1, .ref dd]) ⟨hx, hb, hml, hown, hT⟩ (c_Cells_set l D cI cJ cZ cW cT H.size dd da 64 dn df 1 q3.1 hid) (cwV 2 hT (tbV ml_Primitives_152 im_Cells_set se_Cells_set in_Cells co_Cells_set) rfl rfl rfl v_Cells_set ⟨Nat.le_of_ble_eq_true rfl, Nat.le_of_ble_eq_true rfl⟩) hK hE hP hD hS hA [1, 2] rfl rfl 0 rfl rfl rfl hl.1 rfl (Nat.le_of_ble_eq_true rfl) d_Primitives_resize_46 ⟨Nat.le_of_ble_eq_true rfl, Nat.le_of_ble_eq_true rfl⟩) hP hD hS hA [1, 2] [0, 3, 4, 5] rfl rfl rfl (by decide) [0, 4, 5, 1, 2, 3] rfl (fun u => rfl) (fun q5 H locs e5 k5 hP hD hS => ?_)
    have hP : va_P D classes [(pp, .inr (6, [.ref dd, .ref rr, .ref kc, .ref mm, .ref oo, .ref tt, .ref ww])), (dd, .inr (1, [.ref da, .int dn])), (da, .inl (cI, 64, .inl q5)), (mm, .inr (4, [.ref ma, .ref mb, .int he])), (ma, .inl (cI, 1000, .inl q3.2.1)), (mb, .inl (cI, 600, .inl q3.2.2))] H := hP
    have hD : va_D A [(pp, .inr (6, [.ref dd, .ref rr, .ref kc, .ref mm, .ref oo, .ref tt, .ref ww])), (dd, .inr (1, [.ref da, .int dn])), (da, .inl (cI, 64, .inl q5)), (mm, .inr (4, [.ref ma, .ref mb, .int he])), (ma, .inl (cI, 1000, .inl q3.2.1)), (mb, .inl (cI, 600, .inl q3.2.2))] := hD
    have hF := hF.trans (bd_e e5)
    refine lv_aload_n hx hb d_Primitives_resize_49 rfl (lv_at hl 1 rfl) ?_
    refine va_get (D := D) (v := .ref dd) (C := "ColonMachine$Primitives") (T := T_Primitives) (N := 7) hx hb hT i_Primitives hown hK hP 0 rfl rfl 0 (by decide) (hT _ fl_Primitives_9) (fun _ h9 => h9) rfl d_Primitives_resize_50 ?_
    refine lv_iconst (v := 0) hx hb d_Primitives_resize_53 (by decide) ?_
    refine lv_iconst (v := 0) hx hb d_Primitives_resize_54 (by decide) ?_
    refine kN_sv (wr := [(pp, .inr (6, [.ref dd, .ref rr, .ref kc, .ref mm, .ref oo, .ref tt, .ref ww])), (mm, .inr (4, [.ref ma, .ref mb, .int he])), (ma, .inl (cI, 1000, .inl q3.2.1)), (mb, .inl (cI, 600, .inl q3.2.2))]) (fun u : (Nat → Int32) => [(pp, .inr (6, [.ref dd, .ref rr, .ref kc, .ref mm, .ref oo, .ref tt, .ref ww])), (dd, .inr (1, [.ref da, .int dn])), (da, .inl (cI, 64, .inl u)), (mm, .inr (4, [.ref ma, .ref mb, .int he])), (ma, .inl (cI, 1000, .inl q3.2.1)), (mb, .inl (cI, 600, .inl q3.2.2))]) (zV (wc := [(dd, .inr (1, [.ref da, .int dn])), (da, .inl (cI, 64, .inl q5))]) (As := [.int 0, .int 0]) (rest := []) (st0 := [.int 0, .int 0, .ref dd]) ⟨hx, hb, hml, hown, hT⟩ (c_Cells_set l D cI cJ cZ cW cT H.size dd da 64 dn q5 0 0 hid) (cwV 2 hT (tbV ml_Primitives_152 im_Cells_set se_Cells_set in_Cells co_Cells_set) rfl rfl rfl v_Cells_set ⟨Nat.le_of_ble_eq_true rfl, Nat.le_of_ble_eq_true rfl⟩) hK hE hP hD hS hA [1, 2] rfl rfl 0 rfl rfl rfl hl.1 rfl (Nat.le_of_ble_eq_true rfl) d_Primitives_resize_55 ⟨Nat.le_of_ble_eq_true rfl, Nat.le_of_ble_eq_true rfl⟩) hP hD hS hA [1, 2] [0, 3, 4, 5] rfl rfl rfl (by decide) [0, 4, 5, 1, 2, 3] rfl (fun u => rfl) (fun q6 H locs e6 k6 hP hD hS => ?_)
    have hP : va_P D classes [(pp, .inr (6, [.ref dd, .ref rr, .ref kc, .ref mm, .ref oo, .ref tt, .ref ww])), (dd, .inr (1, [.ref da, .int dn])), (da, .inl (cI, 64, .inl q6)), (mm, .inr (4, [.ref ma, .ref mb, .int he])), (ma, .inl (cI, 1000, .inl q3.2.1)), (mb, .inl (cI, 600, .inl q3.2.2))] H := hP
    have hD : va_D A [(pp, .inr (6, [.ref dd, .ref rr, .ref kc, .ref mm, .ref oo, .ref tt, .ref ww])), (dd, .inr (1, [.ref da, .int dn])), (da, .inl (cI, 64, .inl q6)), (mm, .inr (4, [.ref ma, .ref mb, .int he])), (ma, .inl (cI, 1000, .inl q3.2.1)), (mb, .inl (cI, 600, .inl q3.2.2))] := hD
    have hF := hF.trans (bd_e e6)
    refine lv_iconst (v := 0) hx hb d_Primitives_resize_58 (by decide) ?_
    exact W.iret (v := 0) hx hb hr (fun t ht hW => ⟨⟨_, _, rfl, ⟨hF.symm, trivial⟩, ⟨by rw [ht]; exact hP, va_K.moved hW.alike hK, hD⟩⟩, hS.F ht⟩) hS.2.2 d_Primitives_resize_59
  · have hF := hF.trans (if_pos c4)
    refine lv_aload_n hx hb d_Primitives_resize_28 rfl (lv_at hl 1 rfl) ?_
    refine va_get (D := D) (v := .ref dd) (C := "ColonMachine$Primitives") (T := T_Primitives) (N := 7) hx hb hT i_Primitives hown hK hP 0 rfl rfl 0 (by decide) (hT _ fl_Primitives_9) (fun _ h9 => h9) rfl d_Primitives_resize_29 ?_
    refine lv_iconst (v := 0) hx hb d_Primitives_resize_32 (by decide) ?_
    refine lv_bipush (v := (-61)) hx hb d_Primitives_resize_33 (by decide) ?_
    refine kN_sv (wr := [(pp, .inr (6, [.ref dd, .ref rr, .ref kc, .ref mm, .ref oo, .ref tt, .ref ww])), (mm, .inr (4, [.ref ma, .ref mb, .int he])), (ma, .inl (cI, 1000, .inl q3.2.1)), (mb, .inl (cI, 600, .inl q3.2.2))]) (fun u : (Nat → Int32) => [(pp, .inr (6, [.ref dd, .ref rr, .ref kc, .ref mm, .ref oo, .ref tt, .ref ww])), (dd, .inr (1, [.ref da, .int dn])), (da, .inl (cI, 64, .inl u)), (mm, .inr (4, [.ref ma, .ref mb, .int he])), (ma, .inl (cI, 1000, .inl q3.2.1)), (mb, .inl (cI, 600, .inl q3.2.2))]) (zV (wc := [(dd, .inr (1, [.ref da, .int dn])), (da, .inl (cI, 64, .inl df))]) (As := [.int 0, .int (-61)]) (rest := []) (st0 := [.int (-61), .int 0, .ref dd]) ⟨hx, hb, hml, hown, hT⟩ (c_Cells_set l D cI cJ cZ cW cT H.size dd da 64 dn df 0 (-61) hid) (cwV 2 hT (tbV ml_Primitives_152 im_Cells_set se_Cells_set in_Cells co_Cells_set) rfl rfl rfl v_Cells_set ⟨Nat.le_of_ble_eq_true rfl, Nat.le_of_ble_eq_true rfl⟩) hK hE hP hD hS hA [1, 2] rfl rfl 0 rfl rfl rfl hl.1 rfl (Nat.le_of_ble_eq_true rfl) d_Primitives_resize_35 ⟨Nat.le_of_ble_eq_true rfl, Nat.le_of_ble_eq_true rfl⟩) hP hD hS hA [1, 2] [0, 3, 4, 5] rfl rfl rfl (by decide) [0, 4, 5, 1, 2, 3] rfl (fun u => rfl) (fun q7 H locs e7 k7 hP hD hS => ?_)
    have hP : va_P D classes [(pp, .inr (6, [.ref dd, .ref rr, .ref kc, .ref mm, .ref oo, .ref tt, .ref ww])), (dd, .inr (1, [.ref da, .int dn])), (da, .inl (cI, 64, .inl q7)), (mm, .inr (4, [.ref ma, .ref mb, .int he])), (ma, .inl (cI, 1000, .inl q3.2.1)), (mb, .inl (cI, 600, .inl q3.2.2))] H := hP
    have hD : va_D A [(pp, .inr (6, [.ref dd, .ref rr, .ref kc, .ref mm, .ref oo, .ref tt, .ref ww])), (dd, .inr (1, [.ref da, .int dn])), (da, .inl (cI, 64, .inl q7)), (mm, .inr (4, [.ref ma, .ref mb, .int he])), (ma, .inl (cI, 1000, .inl q3.2.1)), (mb, .inl (cI, 600, .inl q3.2.2))] := hD
    have hF := hF.trans (bd_e e7)
    refine lv_iconst (v := 0) hx hb d_Primitives_resize_38 (by decide) ?_
    exact W.iret (v := 0) hx hb hr (fun t ht hW => ⟨⟨_, _, rfl, ⟨hF.symm, trivial⟩, ⟨by rw [ht]; exact hP, va_K.moved hW.alike hK, hD⟩⟩, hS.F ht⟩) hS.2.2 d_Primitives_resize_39
