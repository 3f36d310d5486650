theorem co_Memory_base : (Jvm.Cond.code ({ cls := "ColonMachine$Memory", name := "base", desc := "()I" } : Jvm.MethodName) prog_6_method_2_code (1 : Nat) (Option.some Jvm.ClassFile.FieldType.int)) ∈ TB := tbI2 _ (List.mem_of_getElem? (i := 210) rfl) rfl
theorem fl_Memory_9 : (Jvm.Cond.fieldLink "ColonMachine$Memory" (9 : Nat) "ColonMachine$Memory" "cells" "[I") ∈ TB := tbI1 _ (List.mem_of_getElem? (i := 81) rfl) rfl
theorem co_Memory_isBase : (Jvm.Cond.code ({ cls := "ColonMachine$Memory", name := "isBase", desc := "(I)Z" } : Jvm.MethodName) prog_6_method_3_code (1 : Nat) (Option.some Jvm.ClassFile.FieldType.boolean)) ∈ TB := tbI3 _ (List.mem_of_getElem? (i := 43) rfl) rfl
theorem co_Memory_here : (Jvm.Cond.code ({ cls := "ColonMachine$Memory", name := "here", desc := "()I" } : Jvm.MethodName) prog_6_method_4_code (1 : Nat) (Option.some Jvm.ClassFile.FieldType.int)) ∈ TB := tbI2 _ (List.mem_of_getElem? (i := 24) rfl) rfl
theorem fl_Memory_16 : (Jvm.Cond.fieldLink "ColonMachine$Memory" (16 : Nat) "ColonMachine$Memory" "here" "I") ∈ TB := tbI1 _ (List.mem_of_getElem? (i := 83) rfl) rfl
theorem co_Memory_isValid : (Jvm.Cond.code ({ cls := "ColonMachine$Memory", name := "isValid", desc := "(I)Z" } : Jvm.MethodName) prog_6_method_5_code (2 : Nat) (Option.some Jvm.ClassFile.FieldType.boolean)) ∈ TB := tbI5 _ (List.mem_of_getElem? (i := 216) rfl) rfl
theorem fl_Memory_13 : (Jvm.Cond.fieldLink "ColonMachine$Memory" (13 : Nat) "ColonMachine$Memory" "blockOf" "[I") ∈ TB := tbI1 _ (List.mem_of_getElem? (i := 82) rfl) rfl
theorem co_Memory_read : (Jvm.Cond.code ({ cls := "ColonMachine$Memory", name := "read", desc := "(I)I" } : Jvm.MethodName) prog_6_method_6_code (2 : Nat) (Option.some Jvm.ClassFile.FieldType.int)) ∈ TB := tbI5 _ (List.mem_of_getElem? (i := 220) rfl) rfl
theorem co_Memory_write : (Jvm.Cond.code ({ cls := "ColonMachine$Memory", name := "write", desc := "(II)V" } : Jvm.MethodName) prog_6_method_7_code (3 : Nat) (Option.none : Option Jvm.ClassFile.FieldType)) ∈ TB := tbI5 _ (List.mem_of_getElem? (i := 228) rfl) rfl
theorem co_Memory_isFull : (Jvm.Cond.code ({ cls := "ColonMachine$Memory", name := "isFull", desc := "()Z" } : Jvm.MethodName) prog_6_method_8_code (1 : Nat) (Option.some Jvm.ClassFile.FieldType.boolean)) ∈ TB := tbI5 _ (List.mem_of_getElem? (i := 236) rfl) rfl
theorem co_Memory_comma : (Jvm.Cond.code ({ cls := "ColonMachine$Memory", name := "comma", desc := "(I)V" } : Jvm.MethodName) prog_6_method_9_code (2 : Nat) (Option.none : Option Jvm.ClassFile.FieldType)) ∈ TB := tbI6 _ (List.mem_of_getElem? (i := 0) rfl) rfl
theorem co_Memory_canAllot : (Jvm.Cond.code ({ cls := "ColonMachine$Memory", name := "canAllot", desc := "(I)Z" } : Jvm.MethodName) prog_6_method_10_code (2 : Nat) (Option.some Jvm.ClassFile.FieldType.boolean)) ∈ TB := tbI6 _ (List.mem_of_getElem? (i := 8) rfl) rfl
theorem co_Memory_setHere : (Jvm.Cond.code ({ cls := "ColonMachine$Memory", name := "setHere", desc := "(I)V" } : Jvm.MethodName) prog_6_method_12_code (2 : Nat) (Option.none : Option Jvm.ClassFile.FieldType)) ∈ TB := tbI6 _ (List.mem_of_getElem? (i := 155) rfl) rfl
theorem co_Memory_blocks : (Jvm.Cond.code ({ cls := "ColonMachine$Memory", name := "blocks", desc := "()I" } : Jvm.MethodName) prog_6_method_13_code (3 : Nat) (Option.some Jvm.ClassFile.FieldType.int)) ∈ TB := tbI2 _ (List.mem_of_getElem? (i := 28) rfl) rfl
theorem co_Memory_cellsInBlocks : (Jvm.Cond.code ({ cls := "ColonMachine$Memory", name := "cellsInBlocks", desc := "()I" } : Jvm.MethodName) prog_6_method_14_code (3 : Nat) (Option.some Jvm.ClassFile.FieldType.int)) ∈ TB := tbI2 _ (List.mem_of_getElem? (i := 32) rfl) rfl
theorem co_Memory_isBlock : (Jvm.Cond.code ({ cls := "ColonMachine$Memory", name := "isBlock", desc := "(I)Z" } : Jvm.MethodName) prog_6_method_15_code (2 : Nat) (Option.some Jvm.ClassFile.FieldType.boolean)) ∈ TB := tbI6 _ (List.mem_of_getElem? (i := 69) rfl) rfl
theorem co_Memory_sizeOf : (Jvm.Cond.code ({ cls := "ColonMachine$Memory", name := "sizeOf", desc := "(I)I" } : Jvm.MethodName) prog_6_method_16_code (4 : Nat) (Option.some Jvm.ClassFile.FieldType.int)) ∈ TB := tbI6 _ (List.mem_of_getElem? (i := 73) rfl) rfl
theorem co_Memory_lowestPlace : (Jvm.Cond.code ({ cls := "ColonMachine$Memory", name := "lowestPlace", desc := "(I)I" } : Jvm.MethodName) prog_6_method_17_code (4 : Nat) (Option.some Jvm.ClassFile.FieldType.int)) ∈ TB := tbI6 _ (List.mem_of_getElem? (i := 49) rfl) rfl
theorem co_Memory_mark : (Jvm.Cond.code ({ cls := "ColonMachine$Memory", name := "mark", desc := "(III)V" } : Jvm.MethodName) prog_6_method_18_code (5 : Nat) (Option.none : Option Jvm.ClassFile.FieldType)) ∈ TB := tbI6 _ (List.mem_of_getElem? (i := 53) rfl) rfl
theorem co_Memory_clearCells : (Jvm.Cond.code ({ cls := "ColonMachine$Memory", name := "clearCells", desc := "(II)V" } : Jvm.MethodName) prog_6_method_19_code (4 : Nat) (Option.none : Option Jvm.ClassFile.FieldType)) ∈ TB := tbI6 _ (List.mem_of_getElem? (i := 57) rfl) rfl
theorem co_Memory_allocate : (Jvm.Cond.code ({ cls := "ColonMachine$Memory", name := "allocate", desc := "(I)I" } : Jvm.MethodName) prog_6_method_20_code (3 : Nat) (Option.some Jvm.ClassFile.FieldType.int)) ∈ TB := tbI6 _ (List.mem_of_getElem? (i := 45) rfl) rfl
theorem ml_Memory_30 : (Jvm.Cond.methodLink "ColonMachine$Memory" (30 : Nat) ({ cls := "ColonMachine$Memory", name := "lowestPlace", desc := "(I)I" } : Jvm.MethodName)) ∈ TB := tbI6 _ (List.mem_of_getElem? (i := 46) rfl) rfl
theorem im_Memory_lowestPlace : (Jvm.Cond.instanceMethod ({ cls := "ColonMachine$Memory", name := "lowestPlace", desc := "(I)I" } : Jvm.MethodName)) ∈ TB := tbI6 _ (List.mem_of_getElem? (i := 48) rfl) rfl
theorem se_Memory_lowestPlace : (Jvm.Cond.selects "ColonMachine$Memory" ({ cls := "ColonMachine$Memory", name := "lowestPlace", desc := "(I)I" } : Jvm.MethodName) ({ cls := "ColonMachine$Memory", name := "lowestPlace", desc := "(I)I" } : Jvm.MethodName)) ∈ TB := tbP _ (List.mem_of_getElem? (i := 51) rfl) rfl
theorem in_Memory : (Jvm.Cond.initialized "ColonMachine$Memory") ∈ TB := tbI1 _ (List.mem_of_getElem? (i := 4) rfl) rfl
theorem ml_Memory_34 : (Jvm.Cond.methodLink "ColonMachine$Memory" (34 : Nat) ({ cls := "ColonMachine$Memory", name := "mark", desc := "(III)V" } : Jvm.MethodName)) ∈ TB := tbI6 _ (List.mem_of_getElem? (i := 50) rfl) rfl
theorem im_Memory_mark : (Jvm.Cond.instanceMethod ({ cls := "ColonMachine$Memory", name := "mark", desc := "(III)V" } : Jvm.MethodName)) ∈ TB := tbI6 _ (List.mem_of_getElem? (i := 52) rfl) rfl
theorem se_Memory_mark : (Jvm.Cond.selects "ColonMachine$Memory" ({ cls := "ColonMachine$Memory", name := "mark", desc := "(III)V" } : Jvm.MethodName) ({ cls := "ColonMachine$Memory", name := "mark", desc := "(III)V" } : Jvm.MethodName)) ∈ TB := tbP _ (List.mem_of_getElem? (i := 52) rfl) rfl
theorem ml_Memory_38 : (Jvm.Cond.methodLink "ColonMachine$Memory" (38 : Nat) ({ cls := "ColonMachine$Memory", name := "clearCells", desc := "(II)V" } : Jvm.MethodName)) ∈ TB := tbI6 _ (List.mem_of_getElem? (i := 54) rfl) rfl
theorem im_Memory_clearCells : (Jvm.Cond.instanceMethod ({ cls := "ColonMachine$Memory", name := "clearCells", desc := "(II)V" } : Jvm.MethodName)) ∈ TB := tbI6 _ (List.mem_of_getElem? (i := 56) rfl) rfl
theorem se_Memory_clearCells : (Jvm.Cond.selects "ColonMachine$Memory" ({ cls := "ColonMachine$Memory", name := "clearCells", desc := "(II)V" } : Jvm.MethodName) ({ cls := "ColonMachine$Memory", name := "clearCells", desc := "(II)V" } : Jvm.MethodName)) ∈ TB := tbP _ (List.mem_of_getElem? (i := 53) rfl) rfl
theorem co_Memory_free : (Jvm.Cond.code ({ cls := "ColonMachine$Memory", name := "free", desc := "(I)Z" } : Jvm.MethodName) prog_6_method_21_code (2 : Nat) (Option.some Jvm.ClassFile.FieldType.boolean)) ∈ TB := tbI6 _ (List.mem_of_getElem? (i := 65) rfl) rfl
theorem ml_Memory_42 : (Jvm.Cond.methodLink "ColonMachine$Memory" (42 : Nat) ({ cls := "ColonMachine$Memory", name := "isBlock", desc := "(I)Z" } : Jvm.MethodName)) ∈ TB := tbI6 _ (List.mem_of_getElem? (i := 66) rfl) rfl
theorem im_Memory_isBlock : (Jvm.Cond.instanceMethod ({ cls := "ColonMachine$Memory", name := "isBlock", desc := "(I)Z" } : Jvm.MethodName)) ∈ TB := tbI6 _ (List.mem_of_getElem? (i := 68) rfl) rfl
theorem se_Memory_isBlock : (Jvm.Cond.selects "ColonMachine$Memory" ({ cls := "ColonMachine$Memory", name := "isBlock", desc := "(I)Z" } : Jvm.MethodName) ({ cls := "ColonMachine$Memory", name := "isBlock", desc := "(I)Z" } : Jvm.MethodName)) ∈ TB := tbP _ (List.mem_of_getElem? (i := 55) rfl) rfl
theorem ml_Memory_45 : (Jvm.Cond.methodLink "ColonMachine$Memory" (45 : Nat) ({ cls := "ColonMachine$Memory", name := "sizeOf", desc := "(I)I" } : Jvm.MethodName)) ∈ TB := tbI6 _ (List.mem_of_getElem? (i := 70) rfl) rfl
theorem im_Memory_sizeOf : (Jvm.Cond.instanceMethod ({ cls := "ColonMachine$Memory", name := "sizeOf", desc := "(I)I" } : Jvm.MethodName)) ∈ TB := tbI6 _ (List.mem_of_getElem? (i := 72) rfl) rfl
theorem se_Memory_sizeOf : (Jvm.Cond.selects "ColonMachine$Memory" ({ cls := "ColonMachine$Memory", name := "sizeOf", desc := "(I)I" } : Jvm.MethodName) ({ cls := "ColonMachine$Memory", name := "sizeOf", desc := "(I)I" } : Jvm.MethodName)) ∈ TB := tbP _ (List.mem_of_getElem? (i := 56) rfl) rfl
theorem co_Memory_canGrow : (Jvm.Cond.code ({ cls := "ColonMachine$Memory", name := "canGrow", desc := "(III)Z" } : Jvm.MethodName) prog_6_method_23_code (5 : Nat) (Option.some Jvm.ClassFile.FieldType.boolean)) ∈ TB := tbI6 _ (List.mem_of_getElem? (i := 85) rfl) rfl
theorem co_Memory_grow : (Jvm.Cond.code ({ cls := "ColonMachine$Memory", name := "grow", desc := "(III)I" } : Jvm.MethodName) prog_6_method_24_code (4 : Nat) (Option.some Jvm.ClassFile.FieldType.int)) ∈ TB := tbI6 _ (List.mem_of_getElem? (i := 89) rfl) rfl
theorem co_Memory_move : (Jvm.Cond.code ({ cls := "ColonMachine$Memory", name := "move", desc := "(III)I" } : Jvm.MethodName) prog_6_method_25_code (6 : Nat) (Option.some Jvm.ClassFile.FieldType.int)) ∈ TB := tbI6 _ (List.mem_of_getElem? (i := 93) rfl) rfl
theorem ml_Memory_59 : (Jvm.Cond.methodLink "ColonMachine$Memory" (59 : Nat) ({ cls := "ColonMachine$Memory", name := "read", desc := "(I)I" } : Jvm.MethodName)) ∈ TB := tbI6 _ (List.mem_of_getElem? (i := 94) rfl) rfl
theorem im_Memory_read : (Jvm.Cond.instanceMethod ({ cls := "ColonMachine$Memory", name := "read", desc := "(I)I" } : Jvm.MethodName)) ∈ TB := tbI5 _ (List.mem_of_getElem? (i := 218) rfl) rfl
theorem se_Memory_read : (Jvm.Cond.selects "ColonMachine$Memory" ({ cls := "ColonMachine$Memory", name := "read", desc := "(I)I" } : Jvm.MethodName) ({ cls := "ColonMachine$Memory", name := "read", desc := "(I)I" } : Jvm.MethodName)) ∈ TB := tbI5 _ (List.mem_of_getElem? (i := 219) rfl) rfl
theorem ml_Memory_62 : (Jvm.Cond.methodLink "ColonMachine$Memory" (62 : Nat) ({ cls := "ColonMachine$Memory", name := "write", desc := "(II)V" } : Jvm.MethodName)) ∈ TB := tbI6 _ (List.mem_of_getElem? (i := 95) rfl) rfl
theorem im_Memory_write : (Jvm.Cond.instanceMethod ({ cls := "ColonMachine$Memory", name := "write", desc := "(II)V" } : Jvm.MethodName)) ∈ TB := tbI5 _ (List.mem_of_getElem? (i := 226) rfl) rfl
theorem se_Memory_write : (Jvm.Cond.selects "ColonMachine$Memory" ({ cls := "ColonMachine$Memory", name := "write", desc := "(II)V" } : Jvm.MethodName) ({ cls := "ColonMachine$Memory", name := "write", desc := "(II)V" } : Jvm.MethodName)) ∈ TB := tbI5 _ (List.mem_of_getElem? (i := 227) rfl) rfl
theorem co_Memory_resize : (Jvm.Cond.code ({ cls := "ColonMachine$Memory", name := "resize", desc := "(II)I" } : Jvm.MethodName) prog_6_method_22_code (4 : Nat) (Option.some Jvm.ClassFile.FieldType.int)) ∈ TB := tbI6 _ (List.mem_of_getElem? (i := 81) rfl) rfl
theorem ml_Memory_48 : (Jvm.Cond.methodLink "ColonMachine$Memory" (48 : Nat) ({ cls := "ColonMachine$Memory", name := "canGrow", desc := "(III)Z" } : Jvm.MethodName)) ∈ TB := tbI6 _ (List.mem_of_getElem? (i := 82) rfl) rfl
theorem im_Memory_canGrow : (Jvm.Cond.instanceMethod ({ cls := "ColonMachine$Memory", name := "canGrow", desc := "(III)Z" } : Jvm.MethodName)) ∈ TB := tbI6 _ (List.mem_of_getElem? (i := 84) rfl) rfl
theorem se_Memory_canGrow : (Jvm.Cond.selects "ColonMachine$Memory" ({ cls := "ColonMachine$Memory", name := "canGrow", desc := "(III)Z" } : Jvm.MethodName) ({ cls := "ColonMachine$Memory", name := "canGrow", desc := "(III)Z" } : Jvm.MethodName)) ∈ TB := tbP _ (List.mem_of_getElem? (i := 58) rfl) rfl
theorem ml_Memory_56 : (Jvm.Cond.methodLink "ColonMachine$Memory" (56 : Nat) ({ cls := "ColonMachine$Memory", name := "move", desc := "(III)I" } : Jvm.MethodName)) ∈ TB := tbI6 _ (List.mem_of_getElem? (i := 90) rfl) rfl
theorem im_Memory_move : (Jvm.Cond.instanceMethod ({ cls := "ColonMachine$Memory", name := "move", desc := "(III)I" } : Jvm.MethodName)) ∈ TB := tbI6 _ (List.mem_of_getElem? (i := 92) rfl) rfl
theorem se_Memory_move : (Jvm.Cond.selects "ColonMachine$Memory" ({ cls := "ColonMachine$Memory", name := "move", desc := "(III)I" } : Jvm.MethodName) ({ cls := "ColonMachine$Memory", name := "move", desc := "(III)I" } : Jvm.MethodName)) ∈ TB := tbP _ (List.mem_of_getElem? (i := 60) rfl) rfl
theorem ml_Memory_52 : (Jvm.Cond.methodLink "ColonMachine$Memory" (52 : Nat) ({ cls := "ColonMachine$Memory", name := "grow", desc := "(III)I" } : Jvm.MethodName)) ∈ TB := tbI6 _ (List.mem_of_getElem? (i := 86) rfl) rfl
theorem im_Memory_grow : (Jvm.Cond.instanceMethod ({ cls := "ColonMachine$Memory", name := "grow", desc := "(III)I" } : Jvm.MethodName)) ∈ TB := tbI6 _ (List.mem_of_getElem? (i := 88) rfl) rfl
theorem se_Memory_grow : (Jvm.Cond.selects "ColonMachine$Memory" ({ cls := "ColonMachine$Memory", name := "grow", desc := "(III)I" } : Jvm.MethodName) ({ cls := "ColonMachine$Memory", name := "grow", desc := "(III)I" } : Jvm.MethodName)) ∈ TB := tbP _ (List.mem_of_getElem? (i := 59) rfl) rfl
abbrev b_Memory_base : ByteArray := prog_6_method_2_code
def y_Memory_base : MethodName := { cls := "ColonMachine$Memory", name := "base", desc := "()I" }
abbrev w_Memory_base : List Cond := .code y_Memory_base b_Memory_base 1 (Option.some Jvm.ClassFile.FieldType.int) :: TB
abbrev b_Memory_isBase : ByteArray := prog_6_method_3_code
def y_Memory_isBase : MethodName := { cls := "ColonMachine$Memory", name := "isBase", desc := "(I)Z" }
abbrev w_Memory_isBase : List Cond := .code y_Memory_isBase b_Memory_isBase 1 (Option.some Jvm.ClassFile.FieldType.boolean) :: TB
abbrev b_Memory_here : ByteArray := prog_6_method_4_code
def y_Memory_here : MethodName := { cls := "ColonMachine$Memory", name := "here", desc := "()I" }
abbrev w_Memory_here : List Cond := .code y_Memory_here b_Memory_here 1 (Option.some Jvm.ClassFile.FieldType.int) :: TB
abbrev b_Memory_isValid : ByteArray := prog_6_method_5_code
def y_Memory_isValid : MethodName := { cls := "ColonMachine$Memory", name := "isValid", desc := "(I)Z" }
abbrev w_Memory_isValid : List Cond := .code y_Memory_isValid b_Memory_isValid 2 (Option.some Jvm.ClassFile.FieldType.boolean) :: TB
abbrev b_Memory_read : ByteArray := prog_6_method_6_code
def y_Memory_read : MethodName := { cls := "ColonMachine$Memory", name := "read", desc := "(I)I" }
abbrev w_Memory_read : List Cond := .code y_Memory_read b_Memory_read 2 (Option.some Jvm.ClassFile.FieldType.int) :: TB
abbrev b_Memory_write : ByteArray := prog_6_method_7_code
def y_Memory_write : MethodName := { cls := "ColonMachine$Memory", name := "write", desc := "(II)V" }
abbrev w_Memory_write : List Cond := .code y_Memory_write b_Memory_write 3 (Option.none : Option Jvm.ClassFile.FieldType) :: TB
abbrev b_Memory_isFull : ByteArray := prog_6_method_8_code
def y_Memory_isFull : MethodName := { cls := "ColonMachine$Memory", name := "isFull", desc := "()Z" }
abbrev w_Memory_isFull : List Cond := .code y_Memory_isFull b_Memory_isFull 1 (Option.some Jvm.ClassFile.FieldType.boolean) :: TB
abbrev b_Memory_comma : ByteArray := prog_6_method_9_code
def y_Memory_comma : MethodName := { cls := "ColonMachine$Memory", name := "comma", desc := "(I)V" }
abbrev w_Memory_comma : List Cond := .code y_Memory_comma b_Memory_comma 2 (Option.none : Option Jvm.ClassFile.FieldType) :: TB
abbrev b_Memory_canAllot : ByteArray := prog_6_method_10_code
def y_Memory_canAllot : MethodName := { cls := "ColonMachine$Memory", name := "canAllot", desc := "(I)Z" }
abbrev w_Memory_canAllot : List Cond := .code y_Memory_canAllot b_Memory_canAllot 2 (Option.some Jvm.ClassFile.FieldType.boolean) :: TB
abbrev b_Memory_setHere : ByteArray := prog_6_method_12_code
def y_Memory_setHere : MethodName := { cls := "ColonMachine$Memory", name := "setHere", desc := "(I)V" }
abbrev w_Memory_setHere : List Cond := .code y_Memory_setHere b_Memory_setHere 2 (Option.none : Option Jvm.ClassFile.FieldType) :: TB
abbrev b_Memory_blocks : ByteArray := prog_6_method_13_code
def y_Memory_blocks : MethodName := { cls := "ColonMachine$Memory", name := "blocks", desc := "()I" }
abbrev w_Memory_blocks : List Cond := .code y_Memory_blocks b_Memory_blocks 3 (Option.some Jvm.ClassFile.FieldType.int) :: TB
abbrev b_Memory_cellsInBlocks : ByteArray := prog_6_method_14_code
def y_Memory_cellsInBlocks : MethodName := { cls := "ColonMachine$Memory", name := "cellsInBlocks", desc := "()I" }
abbrev w_Memory_cellsInBlocks : List Cond := .code y_Memory_cellsInBlocks b_Memory_cellsInBlocks 3 (Option.some Jvm.ClassFile.FieldType.int) :: TB
abbrev b_Memory_isBlock : ByteArray := prog_6_method_15_code
def y_Memory_isBlock : MethodName := { cls := "ColonMachine$Memory", name := "isBlock", desc := "(I)Z" }
abbrev w_Memory_isBlock : List Cond := .code y_Memory_isBlock b_Memory_isBlock 2 (Option.some Jvm.ClassFile.FieldType.boolean) :: TB
abbrev b_Memory_sizeOf : ByteArray := prog_6_method_16_code
def y_Memory_sizeOf : MethodName := { cls := "ColonMachine$Memory", name := "sizeOf", desc := "(I)I" }
abbrev w_Memory_sizeOf : List Cond := .code y_Memory_sizeOf b_Memory_sizeOf 4 (Option.some Jvm.ClassFile.FieldType.int) :: TB
abbrev b_Memory_lowestPlace : ByteArray := prog_6_method_17_code
def y_Memory_lowestPlace : MethodName := { cls := "ColonMachine$Memory", name := "lowestPlace", desc := "(I)I" }
abbrev w_Memory_lowestPlace : List Cond := .code y_Memory_lowestPlace b_Memory_lowestPlace 4 (Option.some Jvm.ClassFile.FieldType.int) :: TB
abbrev b_Memory_mark : ByteArray := prog_6_method_18_code
def y_Memory_mark : MethodName := { cls := "ColonMachine$Memory", name := "mark", desc := "(III)V" }
abbrev w_Memory_mark : List Cond := .code y_Memory_mark b_Memory_mark 5 (Option.none : Option Jvm.ClassFile.FieldType) :: TB
abbrev b_Memory_clearCells : ByteArray := prog_6_method_19_code
def y_Memory_clearCells : MethodName := { cls := "ColonMachine$Memory", name := "clearCells", desc := "(II)V" }
abbrev w_Memory_clearCells : List Cond := .code y_Memory_clearCells b_Memory_clearCells 4 (Option.none : Option Jvm.ClassFile.FieldType) :: TB
abbrev b_Memory_allocate : ByteArray := prog_6_method_20_code
def y_Memory_allocate : MethodName := { cls := "ColonMachine$Memory", name := "allocate", desc := "(I)I" }
abbrev w_Memory_allocate : List Cond := .code y_Memory_allocate b_Memory_allocate 3 (Option.some Jvm.ClassFile.FieldType.int) :: TB
theorem v_Memory_lowestPlace : y_Memory_lowestPlace.cls = "ColonMachine$Memory" ∧ y_Memory_lowestPlace.cls ≠ "java/lang/invoke/MethodHandle" ∧ y_Memory_lowestPlace.cls ≠ "java/lang/invoke/VarHandle" ∧ (parseMethodDescriptor y_Memory_lowestPlace.desc).map (fun d => d.parameters.length) = some 1 := by decide +kernel
theorem v_Memory_mark : y_Memory_mark.cls = "ColonMachine$Memory" ∧ y_Memory_mark.cls ≠ "java/lang/invoke/MethodHandle" ∧ y_Memory_mark.cls ≠ "java/lang/invoke/VarHandle" ∧ (parseMethodDescriptor y_Memory_mark.desc).map (fun d => d.parameters.length) = some 3 := by decide +kernel
theorem v_Memory_clearCells : y_Memory_clearCells.cls = "ColonMachine$Memory" ∧ y_Memory_clearCells.cls ≠ "java/lang/invoke/MethodHandle" ∧ y_Memory_clearCells.cls ≠ "java/lang/invoke/VarHandle" ∧ (parseMethodDescriptor y_Memory_clearCells.desc).map (fun d => d.parameters.length) = some 2 := by decide +kernel
abbrev b_Memory_free : ByteArray := prog_6_method_21_code
def y_Memory_free : MethodName := { cls := "ColonMachine$Memory", name := "free", desc := "(I)Z" }
abbrev w_Memory_free : List Cond := .code y_Memory_free b_Memory_free 2 (Option.some Jvm.ClassFile.FieldType.boolean) :: TB
theorem v_Memory_isBlock : y_Memory_isBlock.cls = "ColonMachine$Memory" ∧ y_Memory_isBlock.cls ≠ "java/lang/invoke/MethodHandle" ∧ y_Memory_isBlock.cls ≠ "java/lang/invoke/VarHandle" ∧ (parseMethodDescriptor y_Memory_isBlock.desc).map (fun d => d.parameters.length) = some 1 := by decide +kernel
theorem v_Memory_sizeOf : y_Memory_sizeOf.cls = "ColonMachine$Memory" ∧ y_Memory_sizeOf.cls ≠ "java/lang/invoke/MethodHandle" ∧ y_Memory_sizeOf.cls ≠ "java/lang/invoke/VarHandle" ∧ (parseMethodDescriptor y_Memory_sizeOf.desc).map (fun d => d.parameters.length) = some 1 := by decide +kernel
abbrev b_Memory_canGrow : ByteArray := prog_6_method_23_code
def y_Memory_canGrow : MethodName := { cls := "ColonMachine$Memory", name := "canGrow", desc := "(III)Z" }
abbrev w_Memory_canGrow : List Cond := .code y_Memory_canGrow b_Memory_canGrow 5 (Option.some Jvm.ClassFile.FieldType.boolean) :: TB
abbrev b_Memory_grow : ByteArray := prog_6_method_24_code
def y_Memory_grow : MethodName := { cls := "ColonMachine$Memory", name := "grow", desc := "(III)I" }
abbrev w_Memory_grow : List Cond := .code y_Memory_grow b_Memory_grow 4 (Option.some Jvm.ClassFile.FieldType.int) :: TB
abbrev b_Memory_move : ByteArray := prog_6_method_25_code
def y_Memory_move : MethodName := { cls := "ColonMachine$Memory", name := "move", desc := "(III)I" }
abbrev w_Memory_move : List Cond := .code y_Memory_move b_Memory_move 6 (Option.some Jvm.ClassFile.FieldType.int) :: TB
theorem v_Memory_read : y_Memory_read.cls = "ColonMachine$Memory" ∧ y_Memory_read.cls ≠ "java/lang/invoke/MethodHandle" ∧ y_Memory_read.cls ≠ "java/lang/invoke/VarHandle" ∧ (parseMethodDescriptor y_Memory_read.desc).map (fun d => d.parameters.length) = some 1 := by decide +kernel
theorem v_Memory_write : y_Memory_write.cls = "ColonMachine$Memory" ∧ y_Memory_write.cls ≠ "java/lang/invoke/MethodHandle" ∧ y_Memory_write.cls ≠ "java/lang/invoke/VarHandle" ∧ (parseMethodDescriptor y_Memory_write.desc).map (fun d => d.parameters.length) = some 2 := by decide +kernel
abbrev b_Memory_resize : ByteArray := prog_6_method_22_code
def y_Memory_resize : MethodName := { cls := "ColonMachine$Memory", name := "resize", desc := "(II)I" }
abbrev w_Memory_resize : List Cond := .code y_Memory_resize b_Memory_resize 4 (Option.some Jvm.ClassFile.FieldType.int) :: TB
theorem v_Memory_canGrow : y_Memory_canGrow.cls = "ColonMachine$Memory" ∧ y_Memory_canGrow.cls ≠ "java/lang/invoke/MethodHandle" ∧ y_Memory_canGrow.cls ≠ "java/lang/invoke/VarHandle" ∧ (parseMethodDescriptor y_Memory_canGrow.desc).map (fun d => d.parameters.length) = some 3 := by decide +kernel
theorem v_Memory_move : y_Memory_move.cls = "ColonMachine$Memory" ∧ y_Memory_move.cls ≠ "java/lang/invoke/MethodHandle" ∧ y_Memory_move.cls ≠ "java/lang/invoke/VarHandle" ∧ (parseMethodDescriptor y_Memory_move.desc).map (fun d => d.parameters.length) = some 3 := by decide +kernel
theorem v_Memory_grow : y_Memory_grow.cls = "ColonMachine$Memory" ∧ y_Memory_grow.cls ≠ "java/lang/invoke/MethodHandle" ∧ y_Memory_grow.cls ≠ "java/lang/invoke/VarHandle" ∧ (parseMethodDescriptor y_Memory_grow.desc).map (fun d => d.parameters.length) = some 3 := by decide +kernel
theorem d_Memory_base_0 : decode b_Memory_base 0 = .ok (.aload_n 0, 1) := by decide +kernel
theorem d_Memory_base_1 : decode b_Memory_base 1 = .ok (.getfield 9, 3) := by decide +kernel
theorem d_Memory_base_4 : decode b_Memory_base 4 = .ok (.iconst 0, 1) := by decide +kernel
theorem d_Memory_base_5 : decode b_Memory_base 5 = .ok (.iaload, 1) := by decide +kernel
theorem d_Memory_base_6 : decode b_Memory_base 6 = .ok (.ireturn, 1) := by decide +kernel
theorem d_Memory_isBase_0 : decode b_Memory_isBase 0 = .ok (.iload_n 0, 1) := by decide +kernel
theorem d_Memory_isBase_1 : decode b_Memory_isBase 1 = .ok (.iconst 2, 1) := by decide +kernel
theorem d_Memory_isBase_2 : decode b_Memory_isBase 2 = .ok (.if_icmp .lt 13, 3) := by decide +kernel
theorem d_Memory_isBase_15 : decode b_Memory_isBase 15 = .ok (.iconst 0, 1) := by decide +kernel
theorem d_Memory_isBase_16 : decode b_Memory_isBase 16 = .ok (.ireturn, 1) := by decide +kernel
theorem d_Memory_isBase_5 : decode b_Memory_isBase 5 = .ok (.iload_n 0, 1) := by decide +kernel
theorem d_Memory_isBase_6 : decode b_Memory_isBase 6 = .ok (.bipush 36, 2) := by decide +kernel
theorem d_Memory_isBase_8 : decode b_Memory_isBase 8 = .ok (.if_icmp .gt 7, 3) := by decide +kernel
theorem d_Memory_isBase_11 : decode b_Memory_isBase 11 = .ok (.iconst 1, 1) := by decide +kernel
theorem d_Memory_isBase_12 : decode b_Memory_isBase 12 = .ok (.goto 4, 3) := by decide +kernel
theorem d_Memory_here_0 : decode b_Memory_here 0 = .ok (.aload_n 0, 1) := by decide +kernel
theorem d_Memory_here_1 : decode b_Memory_here 1 = .ok (.getfield 16, 3) := by decide +kernel
theorem d_Memory_here_4 : decode b_Memory_here 4 = .ok (.ireturn, 1) := by decide +kernel
theorem d_Memory_isValid_0 : decode b_Memory_isValid 0 = .ok (.iload_n 1, 1) := by decide +kernel
theorem d_Memory_isValid_1 : decode b_Memory_isValid 1 = .ok (.ifCond .lt 10, 3) := by decide +kernel
theorem d_Memory_isValid_11 : decode b_Memory_isValid 11 = .ok (.iconst 0, 1) := by decide +kernel
theorem d_Memory_isValid_12 : decode b_Memory_isValid 12 = .ok (.ireturn, 1) := by decide +kernel
theorem d_Memory_isValid_4 : decode b_Memory_isValid 4 = .ok (.iload_n 1, 1) := by decide +kernel
theorem d_Memory_isValid_5 : decode b_Memory_isValid 5 = .ok (.sipush 1000, 3) := by decide +kernel
theorem d_Memory_isValid_8 : decode b_Memory_isValid 8 = .ok (.if_icmp .lt 5, 3) := by decide +kernel
theorem d_Memory_isValid_13 : decode b_Memory_isValid 13 = .ok (.iload_n 1, 1) := by decide +kernel
theorem d_Memory_isValid_14 : decode b_Memory_isValid 14 = .ok (.aload_n 0, 1) := by decide +kernel
theorem d_Memory_isValid_15 : decode b_Memory_isValid 15 = .ok (.getfield 16, 3) := by decide +kernel
theorem d_Memory_isValid_18 : decode b_Memory_isValid 18 = .ok (.if_icmp .lt 23, 3) := by decide +kernel
theorem d_Memory_isValid_41 : decode b_Memory_isValid 41 = .ok (.iconst 1, 1) := by decide +kernel
theorem d_Memory_isValid_42 : decode b_Memory_isValid 42 = .ok (.goto 4, 3) := by decide +kernel
theorem d_Memory_isValid_46 : decode b_Memory_isValid 46 = .ok (.ireturn, 1) := by decide +kernel
theorem d_Memory_isValid_21 : decode b_Memory_isValid 21 = .ok (.iload_n 1, 1) := by decide +kernel
theorem d_Memory_isValid_22 : decode b_Memory_isValid 22 = .ok (.sipush 400, 3) := by decide +kernel
theorem d_Memory_isValid_25 : decode b_Memory_isValid 25 = .ok (.if_icmp .lt 20, 3) := by decide +kernel
theorem d_Memory_isValid_45 : decode b_Memory_isValid 45 = .ok (.iconst 0, 1) := by decide +kernel
theorem d_Memory_isValid_28 : decode b_Memory_isValid 28 = .ok (.aload_n 0, 1) := by decide +kernel
theorem d_Memory_isValid_29 : decode b_Memory_isValid 29 = .ok (.getfield 13, 3) := by decide +kernel
theorem d_Memory_isValid_32 : decode b_Memory_isValid 32 = .ok (.iload_n 1, 1) := by decide +kernel
theorem d_Memory_isValid_33 : decode b_Memory_isValid 33 = .ok (.sipush 400, 3) := by decide +kernel
theorem d_Memory_isValid_36 : decode b_Memory_isValid 36 = .ok (.isub, 1) := by decide +kernel
theorem d_Memory_isValid_37 : decode b_Memory_isValid 37 = .ok (.iaload, 1) := by decide +kernel
theorem d_Memory_isValid_38 : decode b_Memory_isValid 38 = .ok (.ifCond .eq 7, 3) := by decide +kernel
theorem d_Memory_read_0 : decode b_Memory_read 0 = .ok (.iload_n 1, 1) := by decide +kernel
theorem d_Memory_read_1 : decode b_Memory_read 1 = .ok (.ifCond .lt 19, 3) := by decide +kernel
theorem d_Memory_read_20 : decode b_Memory_read 20 = .ok (.iconst 0, 1) := by decide +kernel
theorem d_Memory_read_21 : decode b_Memory_read 21 = .ok (.ireturn, 1) := by decide +kernel
theorem d_Memory_read_4 : decode b_Memory_read 4 = .ok (.iload_n 1, 1) := by decide +kernel
theorem d_Memory_read_5 : decode b_Memory_read 5 = .ok (.sipush 1000, 3) := by decide +kernel
theorem d_Memory_read_8 : decode b_Memory_read 8 = .ok (.if_icmp .ge 12, 3) := by decide +kernel
theorem d_Memory_read_11 : decode b_Memory_read 11 = .ok (.aload_n 0, 1) := by decide +kernel
theorem d_Memory_read_12 : decode b_Memory_read 12 = .ok (.getfield 9, 3) := by decide +kernel
theorem d_Memory_read_15 : decode b_Memory_read 15 = .ok (.iload_n 1, 1) := by decide +kernel
theorem d_Memory_read_16 : decode b_Memory_read 16 = .ok (.iaload, 1) := by decide +kernel
theorem d_Memory_read_17 : decode b_Memory_read 17 = .ok (.goto 4, 3) := by decide +kernel
theorem d_Memory_write_0 : decode b_Memory_write 0 = .ok (.iload_n 1, 1) := by decide +kernel
theorem d_Memory_write_1 : decode b_Memory_write 1 = .ok (.ifCond .lt 17, 3) := by decide +kernel
theorem d_Memory_write_18 : decode b_Memory_write 18 = .ok (.return_, 1) := by decide +kernel
theorem d_Memory_write_4 : decode b_Memory_write 4 = .ok (.iload_n 1, 1) := by decide +kernel
theorem d_Memory_write_5 : decode b_Memory_write 5 = .ok (.sipush 1000, 3) := by decide +kernel
theorem d_Memory_write_8 : decode b_Memory_write 8 = .ok (.if_icmp .ge 10, 3) := by decide +kernel
theorem d_Memory_write_11 : decode b_Memory_write 11 = .ok (.aload_n 0, 1) := by decide +kernel
theorem d_Memory_write_12 : decode b_Memory_write 12 = .ok (.getfield 9, 3) := by decide +kernel
theorem d_Memory_write_15 : decode b_Memory_write 15 = .ok (.iload_n 1, 1) := by decide +kernel
theorem d_Memory_write_16 : decode b_Memory_write 16 = .ok (.iload_n 2, 1) := by decide +kernel
theorem d_Memory_write_17 : decode b_Memory_write 17 = .ok (.iastore, 1) := by decide +kernel
theorem d_Memory_isFull_0 : decode b_Memory_isFull 0 = .ok (.aload_n 0, 1) := by decide +kernel
theorem d_Memory_isFull_1 : decode b_Memory_isFull 1 = .ok (.getfield 16, 3) := by decide +kernel
theorem d_Memory_isFull_4 : decode b_Memory_isFull 4 = .ok (.sipush 400, 3) := by decide +kernel
theorem d_Memory_isFull_7 : decode b_Memory_isFull 7 = .ok (.if_icmp .lt 7, 3) := by decide +kernel
theorem d_Memory_isFull_14 : decode b_Memory_isFull 14 = .ok (.iconst 0, 1) := by decide +kernel
theorem d_Memory_isFull_15 : decode b_Memory_isFull 15 = .ok (.ireturn, 1) := by decide +kernel
theorem d_Memory_isFull_10 : decode b_Memory_isFull 10 = .ok (.iconst 1, 1) := by decide +kernel
theorem d_Memory_isFull_11 : decode b_Memory_isFull 11 = .ok (.goto 4, 3) := by decide +kernel
theorem d_Memory_comma_0 : decode b_Memory_comma 0 = .ok (.aload_n 0, 1) := by decide +kernel
theorem d_Memory_comma_1 : decode b_Memory_comma 1 = .ok (.getfield 16, 3) := by decide +kernel
theorem d_Memory_comma_4 : decode b_Memory_comma 4 = .ok (.sipush 400, 3) := by decide +kernel
theorem d_Memory_comma_7 : decode b_Memory_comma 7 = .ok (.if_icmp .ge 23, 3) := by decide +kernel
theorem d_Memory_comma_30 : decode b_Memory_comma 30 = .ok (.return_, 1) := by decide +kernel
theorem d_Memory_comma_10 : decode b_Memory_comma 10 = .ok (.aload_n 0, 1) := by decide +kernel
theorem d_Memory_comma_11 : decode b_Memory_comma 11 = .ok (.getfield 9, 3) := by decide +kernel
theorem d_Memory_comma_14 : decode b_Memory_comma 14 = .ok (.aload_n 0, 1) := by decide +kernel
theorem d_Memory_comma_15 : decode b_Memory_comma 15 = .ok (.getfield 16, 3) := by decide +kernel
theorem d_Memory_comma_18 : decode b_Memory_comma 18 = .ok (.iload_n 1, 1) := by decide +kernel
theorem d_Memory_comma_19 : decode b_Memory_comma 19 = .ok (.iastore, 1) := by decide +kernel
theorem d_Memory_comma_20 : decode b_Memory_comma 20 = .ok (.aload_n 0, 1) := by decide +kernel
theorem d_Memory_comma_21 : decode b_Memory_comma 21 = .ok (.dup, 1) := by decide +kernel
theorem d_Memory_comma_22 : decode b_Memory_comma 22 = .ok (.getfield 16, 3) := by decide +kernel
theorem d_Memory_comma_25 : decode b_Memory_comma 25 = .ok (.iconst 1, 1) := by decide +kernel
theorem d_Memory_comma_26 : decode b_Memory_comma 26 = .ok (.iadd, 1) := by decide +kernel
theorem d_Memory_comma_27 : decode b_Memory_comma 27 = .ok (.putfield 16, 3) := by decide +kernel
theorem d_Memory_canAllot_0 : decode b_Memory_canAllot 0 = .ok (.iload_n 1, 1) := by decide +kernel
theorem d_Memory_canAllot_1 : decode b_Memory_canAllot 1 = .ok (.iconst 1, 1) := by decide +kernel
theorem d_Memory_canAllot_2 : decode b_Memory_canAllot 2 = .ok (.aload_n 0, 1) := by decide +kernel
theorem d_Memory_canAllot_3 : decode b_Memory_canAllot 3 = .ok (.getfield 16, 3) := by decide +kernel
theorem d_Memory_canAllot_6 : decode b_Memory_canAllot 6 = .ok (.isub, 1) := by decide +kernel
theorem d_Memory_canAllot_7 : decode b_Memory_canAllot 7 = .ok (.if_icmp .lt 19, 3) := by decide +kernel
theorem d_Memory_canAllot_26 : decode b_Memory_canAllot 26 = .ok (.iconst 0, 1) := by decide +kernel
theorem d_Memory_canAllot_27 : decode b_Memory_canAllot 27 = .ok (.ireturn, 1) := by decide +kernel
theorem d_Memory_canAllot_10 : decode b_Memory_canAllot 10 = .ok (.iload_n 1, 1) := by decide +kernel
theorem d_Memory_canAllot_11 : decode b_Memory_canAllot 11 = .ok (.sipush 400, 3) := by decide +kernel
theorem d_Memory_canAllot_14 : decode b_Memory_canAllot 14 = .ok (.aload_n 0, 1) := by decide +kernel
theorem d_Memory_canAllot_15 : decode b_Memory_canAllot 15 = .ok (.getfield 16, 3) := by decide +kernel
theorem d_Memory_canAllot_18 : decode b_Memory_canAllot 18 = .ok (.isub, 1) := by decide +kernel
theorem d_Memory_canAllot_19 : decode b_Memory_canAllot 19 = .ok (.if_icmp .gt 7, 3) := by decide +kernel
theorem d_Memory_canAllot_22 : decode b_Memory_canAllot 22 = .ok (.iconst 1, 1) := by decide +kernel
theorem d_Memory_canAllot_23 : decode b_Memory_canAllot 23 = .ok (.goto 4, 3) := by decide +kernel
theorem d_Memory_setHere_0 : decode b_Memory_setHere 0 = .ok (.iload_n 1, 1) := by decide +kernel
theorem d_Memory_setHere_1 : decode b_Memory_setHere 1 = .ok (.iconst 1, 1) := by decide +kernel
theorem d_Memory_setHere_2 : decode b_Memory_setHere 2 = .ok (.if_icmp .lt 15, 3) := by decide +kernel
theorem d_Memory_setHere_17 : decode b_Memory_setHere 17 = .ok (.return_, 1) := by decide +kernel
theorem d_Memory_setHere_5 : decode b_Memory_setHere 5 = .ok (.iload_n 1, 1) := by decide +kernel
theorem d_Memory_setHere_6 : decode b_Memory_setHere 6 = .ok (.sipush 400, 3) := by decide +kernel
theorem d_Memory_setHere_9 : decode b_Memory_setHere 9 = .ok (.if_icmp .gt 8, 3) := by decide +kernel
theorem d_Memory_setHere_12 : decode b_Memory_setHere 12 = .ok (.aload_n 0, 1) := by decide +kernel
theorem d_Memory_setHere_13 : decode b_Memory_setHere 13 = .ok (.iload_n 1, 1) := by decide +kernel
theorem d_Memory_setHere_14 : decode b_Memory_setHere 14 = .ok (.putfield 16, 3) := by decide +kernel
theorem d_Memory_blocks_0 : decode b_Memory_blocks 0 = .ok (.iconst 0, 1) := by decide +kernel
theorem d_Memory_blocks_1 : decode b_Memory_blocks 1 = .ok (.istore_n 1, 1) := by decide +kernel
theorem d_Memory_blocks_2 : decode b_Memory_blocks 2 = .ok (.iconst 0, 1) := by decide +kernel
theorem d_Memory_blocks_3 : decode b_Memory_blocks 3 = .ok (.istore_n 2, 1) := by decide +kernel
theorem d_Memory_blocks_4 : decode b_Memory_blocks 4 = .ok (.iload_n 2, 1) := by decide +kernel
theorem d_Memory_blocks_5 : decode b_Memory_blocks 5 = .ok (.aload_n 0, 1) := by decide +kernel
theorem d_Memory_blocks_6 : decode b_Memory_blocks 6 = .ok (.getfield 13, 3) := by decide +kernel
theorem d_Memory_blocks_9 : decode b_Memory_blocks 9 = .ok (.arraylength, 1) := by decide +kernel
theorem d_Memory_blocks_10 : decode b_Memory_blocks 10 = .ok (.if_icmp .ge 26, 3) := by decide +kernel
theorem d_Memory_blocks_13 : decode b_Memory_blocks 13 = .ok (.aload_n 0, 1) := by decide +kernel
theorem d_Memory_blocks_14 : decode b_Memory_blocks 14 = .ok (.getfield 13, 3) := by decide +kernel
theorem d_Memory_blocks_17 : decode b_Memory_blocks 17 = .ok (.iload_n 2, 1) := by decide +kernel
theorem d_Memory_blocks_18 : decode b_Memory_blocks 18 = .ok (.iaload, 1) := by decide +kernel
theorem d_Memory_blocks_19 : decode b_Memory_blocks 19 = .ok (.sipush 400, 3) := by decide +kernel
theorem d_Memory_blocks_22 : decode b_Memory_blocks 22 = .ok (.iload_n 2, 1) := by decide +kernel
theorem d_Memory_blocks_23 : decode b_Memory_blocks 23 = .ok (.iadd, 1) := by decide +kernel
theorem d_Memory_blocks_24 : decode b_Memory_blocks 24 = .ok (.if_icmp .ne 6, 3) := by decide +kernel
theorem d_Memory_blocks_30 : decode b_Memory_blocks 30 = .ok (.iinc 2 1, 3) := by decide +kernel
theorem d_Memory_blocks_33 : decode b_Memory_blocks 33 = .ok (.goto (-29), 3) := by decide +kernel
theorem d_Memory_blocks_27 : decode b_Memory_blocks 27 = .ok (.iinc 1 1, 3) := by decide +kernel
theorem d_Memory_blocks_36 : decode b_Memory_blocks 36 = .ok (.iload_n 1, 1) := by decide +kernel
theorem d_Memory_blocks_37 : decode b_Memory_blocks 37 = .ok (.ireturn, 1) := by decide +kernel
theorem d_Memory_cellsInBlocks_0 : decode b_Memory_cellsInBlocks 0 = .ok (.iconst 0, 1) := by decide +kernel
theorem d_Memory_cellsInBlocks_1 : decode b_Memory_cellsInBlocks 1 = .ok (.istore_n 1, 1) := by decide +kernel
theorem d_Memory_cellsInBlocks_2 : decode b_Memory_cellsInBlocks 2 = .ok (.iconst 0, 1) := by decide +kernel
theorem d_Memory_cellsInBlocks_3 : decode b_Memory_cellsInBlocks 3 = .ok (.istore_n 2, 1) := by decide +kernel
theorem d_Memory_cellsInBlocks_4 : decode b_Memory_cellsInBlocks 4 = .ok (.iload_n 2, 1) := by decide +kernel
theorem d_Memory_cellsInBlocks_5 : decode b_Memory_cellsInBlocks 5 = .ok (.aload_n 0, 1) := by decide +kernel
theorem d_Memory_cellsInBlocks_6 : decode b_Memory_cellsInBlocks 6 = .ok (.getfield 13, 3) := by decide +kernel
theorem d_Memory_cellsInBlocks_9 : decode b_Memory_cellsInBlocks 9 = .ok (.arraylength, 1) := by decide +kernel
theorem d_Memory_cellsInBlocks_10 : decode b_Memory_cellsInBlocks 10 = .ok (.if_icmp .ge 21, 3) := by decide +kernel
theorem d_Memory_cellsInBlocks_13 : decode b_Memory_cellsInBlocks 13 = .ok (.aload_n 0, 1) := by decide +kernel
theorem d_Memory_cellsInBlocks_14 : decode b_Memory_cellsInBlocks 14 = .ok (.getfield 13, 3) := by decide +kernel
theorem d_Memory_cellsInBlocks_17 : decode b_Memory_cellsInBlocks 17 = .ok (.iload_n 2, 1) := by decide +kernel
theorem d_Memory_cellsInBlocks_18 : decode b_Memory_cellsInBlocks 18 = .ok (.iaload, 1) := by decide +kernel
theorem d_Memory_cellsInBlocks_19 : decode b_Memory_cellsInBlocks 19 = .ok (.ifCond .eq 6, 3) := by decide +kernel
theorem d_Memory_cellsInBlocks_25 : decode b_Memory_cellsInBlocks 25 = .ok (.iinc 2 1, 3) := by decide +kernel
theorem d_Memory_cellsInBlocks_28 : decode b_Memory_cellsInBlocks 28 = .ok (.goto (-24), 3) := by decide +kernel
theorem d_Memory_cellsInBlocks_22 : decode b_Memory_cellsInBlocks 22 = .ok (.iinc 1 1, 3) := by decide +kernel
theorem d_Memory_cellsInBlocks_31 : decode b_Memory_cellsInBlocks 31 = .ok (.iload_n 1, 1) := by decide +kernel
theorem d_Memory_cellsInBlocks_32 : decode b_Memory_cellsInBlocks 32 = .ok (.ireturn, 1) := by decide +kernel
theorem d_Memory_isBlock_0 : decode b_Memory_isBlock 0 = .ok (.iload_n 1, 1) := by decide +kernel
theorem d_Memory_isBlock_1 : decode b_Memory_isBlock 1 = .ok (.sipush 400, 3) := by decide +kernel
theorem d_Memory_isBlock_4 : decode b_Memory_isBlock 4 = .ok (.if_icmp .lt 28, 3) := by decide +kernel
theorem d_Memory_isBlock_32 : decode b_Memory_isBlock 32 = .ok (.iconst 0, 1) := by decide +kernel
theorem d_Memory_isBlock_33 : decode b_Memory_isBlock 33 = .ok (.ireturn, 1) := by decide +kernel
theorem d_Memory_isBlock_7 : decode b_Memory_isBlock 7 = .ok (.iload_n 1, 1) := by decide +kernel
theorem d_Memory_isBlock_8 : decode b_Memory_isBlock 8 = .ok (.sipush 1000, 3) := by decide +kernel
theorem d_Memory_isBlock_11 : decode b_Memory_isBlock 11 = .ok (.if_icmp .ge 21, 3) := by decide +kernel
theorem d_Memory_isBlock_14 : decode b_Memory_isBlock 14 = .ok (.aload_n 0, 1) := by decide +kernel
theorem d_Memory_isBlock_15 : decode b_Memory_isBlock 15 = .ok (.getfield 13, 3) := by decide +kernel
theorem d_Memory_isBlock_18 : decode b_Memory_isBlock 18 = .ok (.iload_n 1, 1) := by decide +kernel
theorem d_Memory_isBlock_19 : decode b_Memory_isBlock 19 = .ok (.sipush 400, 3) := by decide +kernel
theorem d_Memory_isBlock_22 : decode b_Memory_isBlock 22 = .ok (.isub, 1) := by decide +kernel
theorem d_Memory_isBlock_23 : decode b_Memory_isBlock 23 = .ok (.iaload, 1) := by decide +kernel
theorem d_Memory_isBlock_24 : decode b_Memory_isBlock 24 = .ok (.iload_n 1, 1) := by decide +kernel
theorem d_Memory_isBlock_25 : decode b_Memory_isBlock 25 = .ok (.if_icmp .ne 7, 3) := by decide +kernel
theorem d_Memory_isBlock_28 : decode b_Memory_isBlock 28 = .ok (.iconst 1, 1) := by decide +kernel
theorem d_Memory_isBlock_29 : decode b_Memory_isBlock 29 = .ok (.goto 4, 3) := by decide +kernel
theorem d_Memory_sizeOf_0 : decode b_Memory_sizeOf 0 = .ok (.iconst 0, 1) := by decide +kernel
theorem d_Memory_sizeOf_1 : decode b_Memory_sizeOf 1 = .ok (.istore_n 2, 1) := by decide +kernel
theorem d_Memory_sizeOf_2 : decode b_Memory_sizeOf 2 = .ok (.iload_n 1, 1) := by decide +kernel
theorem d_Memory_sizeOf_3 : decode b_Memory_sizeOf 3 = .ok (.istore_n 3, 1) := by decide +kernel
theorem d_Memory_sizeOf_4 : decode b_Memory_sizeOf 4 = .ok (.iload_n 3, 1) := by decide +kernel
theorem d_Memory_sizeOf_5 : decode b_Memory_sizeOf 5 = .ok (.sipush 1000, 3) := by decide +kernel
theorem d_Memory_sizeOf_8 : decode b_Memory_sizeOf 8 = .ok (.if_icmp .ge 33, 3) := by decide +kernel
theorem d_Memory_sizeOf_41 : decode b_Memory_sizeOf 41 = .ok (.iload_n 2, 1) := by decide +kernel
theorem d_Memory_sizeOf_42 : decode b_Memory_sizeOf 42 = .ok (.ireturn, 1) := by decide +kernel
theorem d_Memory_sizeOf_11 : decode b_Memory_sizeOf 11 = .ok (.iload_n 3, 1) := by decide +kernel
theorem d_Memory_sizeOf_12 : decode b_Memory_sizeOf 12 = .ok (.sipush 400, 3) := by decide +kernel
theorem d_Memory_sizeOf_15 : decode b_Memory_sizeOf 15 = .ok (.if_icmp .lt 26, 3) := by decide +kernel
theorem d_Memory_sizeOf_18 : decode b_Memory_sizeOf 18 = .ok (.aload_n 0, 1) := by decide +kernel
theorem d_Memory_sizeOf_19 : decode b_Memory_sizeOf 19 = .ok (.getfield 13, 3) := by decide +kernel
theorem d_Memory_sizeOf_22 : decode b_Memory_sizeOf 22 = .ok (.iload_n 3, 1) := by decide +kernel
theorem d_Memory_sizeOf_23 : decode b_Memory_sizeOf 23 = .ok (.sipush 400, 3) := by decide +kernel
theorem d_Memory_sizeOf_26 : decode b_Memory_sizeOf 26 = .ok (.isub, 1) := by decide +kernel
theorem d_Memory_sizeOf_27 : decode b_Memory_sizeOf 27 = .ok (.iaload, 1) := by decide +kernel
theorem d_Memory_sizeOf_28 : decode b_Memory_sizeOf 28 = .ok (.iload_n 1, 1) := by decide +kernel
theorem d_Memory_sizeOf_29 : decode b_Memory_sizeOf 29 = .ok (.if_icmp .ne 12, 3) := by decide +kernel
theorem d_Memory_sizeOf_32 : decode b_Memory_sizeOf 32 = .ok (.iinc 2 1, 3) := by decide +kernel
theorem d_Memory_sizeOf_35 : decode b_Memory_sizeOf 35 = .ok (.iinc 3 1, 3) := by decide +kernel
theorem d_Memory_sizeOf_38 : decode b_Memory_sizeOf 38 = .ok (.goto (-34), 3) := by decide +kernel
theorem d_Memory_lowestPlace_0 : decode b_Memory_lowestPlace 0 = .ok (.iconst 0, 1) := by decide +kernel
theorem d_Memory_lowestPlace_1 : decode b_Memory_lowestPlace 1 = .ok (.istore_n 2, 1) := by decide +kernel
theorem d_Memory_lowestPlace_2 : decode b_Memory_lowestPlace 2 = .ok (.iconst 0, 1) := by decide +kernel
theorem d_Memory_lowestPlace_3 : decode b_Memory_lowestPlace 3 = .ok (.istore_n 3, 1) := by decide +kernel
theorem d_Memory_lowestPlace_4 : decode b_Memory_lowestPlace 4 = .ok (.iload_n 3, 1) := by decide +kernel
theorem d_Memory_lowestPlace_5 : decode b_Memory_lowestPlace 5 = .ok (.aload_n 0, 1) := by decide +kernel
theorem d_Memory_lowestPlace_6 : decode b_Memory_lowestPlace 6 = .ok (.getfield 13, 3) := by decide +kernel
theorem d_Memory_lowestPlace_9 : decode b_Memory_lowestPlace 9 = .ok (.arraylength, 1) := by decide +kernel
theorem d_Memory_lowestPlace_10 : decode b_Memory_lowestPlace 10 = .ok (.if_icmp .ge 41, 3) := by decide +kernel
theorem d_Memory_lowestPlace_13 : decode b_Memory_lowestPlace 13 = .ok (.aload_n 0, 1) := by decide +kernel
theorem d_Memory_lowestPlace_14 : decode b_Memory_lowestPlace 14 = .ok (.getfield 13, 3) := by decide +kernel
theorem d_Memory_lowestPlace_17 : decode b_Memory_lowestPlace 17 = .ok (.iload_n 3, 1) := by decide +kernel
theorem d_Memory_lowestPlace_18 : decode b_Memory_lowestPlace 18 = .ok (.iaload, 1) := by decide +kernel
theorem d_Memory_lowestPlace_19 : decode b_Memory_lowestPlace 19 = .ok (.ifCond .ne 9, 3) := by decide +kernel
theorem d_Memory_lowestPlace_28 : decode b_Memory_lowestPlace 28 = .ok (.iconst 0, 1) := by decide +kernel
theorem d_Memory_lowestPlace_29 : decode b_Memory_lowestPlace 29 = .ok (.istore_n 2, 1) := by decide +kernel
theorem d_Memory_lowestPlace_30 : decode b_Memory_lowestPlace 30 = .ok (.iload_n 2, 1) := by decide +kernel
theorem d_Memory_lowestPlace_31 : decode b_Memory_lowestPlace 31 = .ok (.iload_n 1, 1) := by decide +kernel
theorem d_Memory_lowestPlace_32 : decode b_Memory_lowestPlace 32 = .ok (.if_icmp .ne 13, 3) := by decide +kernel
theorem d_Memory_lowestPlace_45 : decode b_Memory_lowestPlace 45 = .ok (.iinc 3 1, 3) := by decide +kernel
theorem d_Memory_lowestPlace_48 : decode b_Memory_lowestPlace 48 = .ok (.goto (-44), 3) := by decide +kernel
theorem d_Memory_lowestPlace_35 : decode b_Memory_lowestPlace 35 = .ok (.sipush 400, 3) := by decide +kernel
theorem d_Memory_lowestPlace_38 : decode b_Memory_lowestPlace 38 = .ok (.iload_n 3, 1) := by decide +kernel
theorem d_Memory_lowestPlace_39 : decode b_Memory_lowestPlace 39 = .ok (.iadd, 1) := by decide +kernel
theorem d_Memory_lowestPlace_40 : decode b_Memory_lowestPlace 40 = .ok (.iconst 1, 1) := by decide +kernel
theorem d_Memory_lowestPlace_41 : decode b_Memory_lowestPlace 41 = .ok (.iadd, 1) := by decide +kernel
theorem d_Memory_lowestPlace_42 : decode b_Memory_lowestPlace 42 = .ok (.iload_n 1, 1) := by decide +kernel
theorem d_Memory_lowestPlace_43 : decode b_Memory_lowestPlace 43 = .ok (.isub, 1) := by decide +kernel
theorem d_Memory_lowestPlace_44 : decode b_Memory_lowestPlace 44 = .ok (.ireturn, 1) := by decide +kernel
theorem d_Memory_lowestPlace_22 : decode b_Memory_lowestPlace 22 = .ok (.iload_n 2, 1) := by decide +kernel
theorem d_Memory_lowestPlace_23 : decode b_Memory_lowestPlace 23 = .ok (.iconst 1, 1) := by decide +kernel
theorem d_Memory_lowestPlace_24 : decode b_Memory_lowestPlace 24 = .ok (.iadd, 1) := by decide +kernel
theorem d_Memory_lowestPlace_25 : decode b_Memory_lowestPlace 25 = .ok (.goto 4, 3) := by decide +kernel
theorem d_Memory_lowestPlace_51 : decode b_Memory_lowestPlace 51 = .ok (.iconst 0, 1) := by decide +kernel
theorem d_Memory_lowestPlace_52 : decode b_Memory_lowestPlace 52 = .ok (.ireturn, 1) := by decide +kernel
theorem d_Memory_mark_0 : decode b_Memory_mark 0 = .ok (.iload_n 1, 1) := by decide +kernel
theorem d_Memory_mark_1 : decode b_Memory_mark 1 = .ok (.istore 4, 2) := by decide +kernel
theorem d_Memory_mark_3 : decode b_Memory_mark 3 = .ok (.iload 4, 2) := by decide +kernel
theorem d_Memory_mark_5 : decode b_Memory_mark 5 = .ok (.iload_n 2, 1) := by decide +kernel
theorem d_Memory_mark_6 : decode b_Memory_mark 6 = .ok (.if_icmp .ge 37, 3) := by decide +kernel
theorem d_Memory_mark_43 : decode b_Memory_mark 43 = .ok (.return_, 1) := by decide +kernel
theorem d_Memory_mark_9 : decode b_Memory_mark 9 = .ok (.iload 4, 2) := by decide +kernel
theorem d_Memory_mark_11 : decode b_Memory_mark 11 = .ok (.sipush 400, 3) := by decide +kernel
theorem d_Memory_mark_14 : decode b_Memory_mark 14 = .ok (.if_icmp .lt 23, 3) := by decide +kernel
theorem d_Memory_mark_37 : decode b_Memory_mark 37 = .ok (.iinc 4 1, 3) := by decide +kernel
theorem d_Memory_mark_40 : decode b_Memory_mark 40 = .ok (.goto (-37), 3) := by decide +kernel
theorem d_Memory_mark_17 : decode b_Memory_mark 17 = .ok (.iload 4, 2) := by decide +kernel
theorem d_Memory_mark_19 : decode b_Memory_mark 19 = .ok (.sipush 1000, 3) := by decide +kernel
theorem d_Memory_mark_22 : decode b_Memory_mark 22 = .ok (.if_icmp .ge 15, 3) := by decide +kernel
theorem d_Memory_mark_25 : decode b_Memory_mark 25 = .ok (.aload_n 0, 1) := by decide +kernel
theorem d_Memory_mark_26 : decode b_Memory_mark 26 = .ok (.getfield 13, 3) := by decide +kernel
theorem d_Memory_mark_29 : decode b_Memory_mark 29 = .ok (.iload 4, 2) := by decide +kernel
theorem d_Memory_mark_31 : decode b_Memory_mark 31 = .ok (.sipush 400, 3) := by decide +kernel
theorem d_Memory_mark_34 : decode b_Memory_mark 34 = .ok (.isub, 1) := by decide +kernel
theorem d_Memory_mark_35 : decode b_Memory_mark 35 = .ok (.iload_n 3, 1) := by decide +kernel
theorem d_Memory_mark_36 : decode b_Memory_mark 36 = .ok (.iastore, 1) := by decide +kernel
theorem d_Memory_clearCells_0 : decode b_Memory_clearCells 0 = .ok (.iload_n 1, 1) := by decide +kernel
theorem d_Memory_clearCells_1 : decode b_Memory_clearCells 1 = .ok (.istore_n 3, 1) := by decide +kernel
theorem d_Memory_clearCells_2 : decode b_Memory_clearCells 2 = .ok (.iload_n 3, 1) := by decide +kernel
theorem d_Memory_clearCells_3 : decode b_Memory_clearCells 3 = .ok (.iload_n 2, 1) := by decide +kernel
theorem d_Memory_clearCells_4 : decode b_Memory_clearCells 4 = .ok (.if_icmp .ge 30, 3) := by decide +kernel
theorem d_Memory_clearCells_34 : decode b_Memory_clearCells 34 = .ok (.return_, 1) := by decide +kernel
theorem d_Memory_clearCells_7 : decode b_Memory_clearCells 7 = .ok (.iload_n 3, 1) := by decide +kernel
theorem d_Memory_clearCells_8 : decode b_Memory_clearCells 8 = .ok (.sipush 400, 3) := by decide +kernel
theorem d_Memory_clearCells_11 : decode b_Memory_clearCells 11 = .ok (.if_icmp .lt 17, 3) := by decide +kernel
theorem d_Memory_clearCells_28 : decode b_Memory_clearCells 28 = .ok (.iinc 3 1, 3) := by decide +kernel
theorem d_Memory_clearCells_31 : decode b_Memory_clearCells 31 = .ok (.goto (-29), 3) := by decide +kernel
theorem d_Memory_clearCells_14 : decode b_Memory_clearCells 14 = .ok (.iload_n 3, 1) := by decide +kernel
theorem d_Memory_clearCells_15 : decode b_Memory_clearCells 15 = .ok (.sipush 1000, 3) := by decide +kernel
theorem d_Memory_clearCells_18 : decode b_Memory_clearCells 18 = .ok (.if_icmp .ge 10, 3) := by decide +kernel
theorem d_Memory_clearCells_21 : decode b_Memory_clearCells 21 = .ok (.aload_n 0, 1) := by decide +kernel
theorem d_Memory_clearCells_22 : decode b_Memory_clearCells 22 = .ok (.getfield 9, 3) := by decide +kernel
theorem d_Memory_clearCells_25 : decode b_Memory_clearCells 25 = .ok (.iload_n 3, 1) := by decide +kernel
theorem d_Memory_clearCells_26 : decode b_Memory_clearCells 26 = .ok (.iconst 0, 1) := by decide +kernel
theorem d_Memory_clearCells_27 : decode b_Memory_clearCells 27 = .ok (.iastore, 1) := by decide +kernel
theorem d_Memory_allocate_0 : decode b_Memory_allocate 0 = .ok (.iload_n 1, 1) := by decide +kernel
theorem d_Memory_allocate_1 : decode b_Memory_allocate 1 = .ok (.iconst 1, 1) := by decide +kernel
theorem d_Memory_allocate_2 : decode b_Memory_allocate 2 = .ok (.if_icmp .ge 7, 3) := by decide +kernel
theorem d_Memory_allocate_9 : decode b_Memory_allocate 9 = .ok (.aload_n 0, 1) := by decide +kernel
theorem d_Memory_allocate_10 : decode b_Memory_allocate 10 = .ok (.iload_n 1, 1) := by decide +kernel
theorem d_Memory_allocate_11 : decode b_Memory_allocate 11 = .ok (.invokevirtual 30, 3) := by decide +kernel
theorem d_Memory_allocate_14 : decode b_Memory_allocate 14 = .ok (.istore_n 2, 1) := by decide +kernel
theorem d_Memory_allocate_15 : decode b_Memory_allocate 15 = .ok (.iload_n 2, 1) := by decide +kernel
theorem d_Memory_allocate_16 : decode b_Memory_allocate 16 = .ok (.ifCond .eq 20, 3) := by decide +kernel
theorem d_Memory_allocate_36 : decode b_Memory_allocate 36 = .ok (.iload_n 2, 1) := by decide +kernel
theorem d_Memory_allocate_37 : decode b_Memory_allocate 37 = .ok (.ireturn, 1) := by decide +kernel
theorem d_Memory_allocate_19 : decode b_Memory_allocate 19 = .ok (.aload_n 0, 1) := by decide +kernel
theorem d_Memory_allocate_20 : decode b_Memory_allocate 20 = .ok (.iload_n 2, 1) := by decide +kernel
theorem d_Memory_allocate_21 : decode b_Memory_allocate 21 = .ok (.iload_n 2, 1) := by decide +kernel
theorem d_Memory_allocate_22 : decode b_Memory_allocate 22 = .ok (.iload_n 1, 1) := by decide +kernel
theorem d_Memory_allocate_23 : decode b_Memory_allocate 23 = .ok (.iadd, 1) := by decide +kernel
theorem d_Memory_allocate_24 : decode b_Memory_allocate 24 = .ok (.iload_n 2, 1) := by decide +kernel
theorem d_Memory_allocate_25 : decode b_Memory_allocate 25 = .ok (.invokevirtual 34, 3) := by decide +kernel
theorem d_Memory_allocate_28 : decode b_Memory_allocate 28 = .ok (.aload_n 0, 1) := by decide +kernel
theorem d_Memory_allocate_29 : decode b_Memory_allocate 29 = .ok (.iload_n 2, 1) := by decide +kernel
theorem d_Memory_allocate_30 : decode b_Memory_allocate 30 = .ok (.iload_n 2, 1) := by decide +kernel
theorem d_Memory_allocate_31 : decode b_Memory_allocate 31 = .ok (.iload_n 1, 1) := by decide +kernel
theorem d_Memory_allocate_32 : decode b_Memory_allocate 32 = .ok (.iadd, 1) := by decide +kernel
theorem d_Memory_allocate_33 : decode b_Memory_allocate 33 = .ok (.invokevirtual 38, 3) := by decide +kernel
theorem d_Memory_allocate_5 : decode b_Memory_allocate 5 = .ok (.iconst 0, 1) := by decide +kernel
theorem d_Memory_allocate_6 : decode b_Memory_allocate 6 = .ok (.goto 8, 3) := by decide +kernel
theorem d_Memory_free_0 : decode b_Memory_free 0 = .ok (.aload_n 0, 1) := by decide +kernel
theorem d_Memory_free_1 : decode b_Memory_free 1 = .ok (.iload_n 1, 1) := by decide +kernel
theorem d_Memory_free_2 : decode b_Memory_free 2 = .ok (.invokevirtual 42, 3) := by decide +kernel
theorem d_Memory_free_5 : decode b_Memory_free 5 = .ok (.ifCond .ne 5, 3) := by decide +kernel
theorem d_Memory_free_10 : decode b_Memory_free 10 = .ok (.aload_n 0, 1) := by decide +kernel
theorem d_Memory_free_11 : decode b_Memory_free 11 = .ok (.iload_n 1, 1) := by decide +kernel
theorem d_Memory_free_12 : decode b_Memory_free 12 = .ok (.iload_n 1, 1) := by decide +kernel
theorem d_Memory_free_13 : decode b_Memory_free 13 = .ok (.aload_n 0, 1) := by decide +kernel
theorem d_Memory_free_14 : decode b_Memory_free 14 = .ok (.iload_n 1, 1) := by decide +kernel
theorem d_Memory_free_15 : decode b_Memory_free 15 = .ok (.invokevirtual 45, 3) := by decide +kernel
theorem d_Memory_free_18 : decode b_Memory_free 18 = .ok (.iadd, 1) := by decide +kernel
theorem d_Memory_free_19 : decode b_Memory_free 19 = .ok (.iconst 0, 1) := by decide +kernel
theorem d_Memory_free_20 : decode b_Memory_free 20 = .ok (.invokevirtual 34, 3) := by decide +kernel
theorem d_Memory_free_23 : decode b_Memory_free 23 = .ok (.iconst 1, 1) := by decide +kernel
theorem d_Memory_free_24 : decode b_Memory_free 24 = .ok (.ireturn, 1) := by decide +kernel
theorem d_Memory_free_8 : decode b_Memory_free 8 = .ok (.iconst 0, 1) := by decide +kernel
theorem d_Memory_free_9 : decode b_Memory_free 9 = .ok (.ireturn, 1) := by decide +kernel
theorem d_Memory_canGrow_0 : decode b_Memory_canGrow 0 = .ok (.iload_n 1, 1) := by decide +kernel
theorem d_Memory_canGrow_1 : decode b_Memory_canGrow 1 = .ok (.iload_n 3, 1) := by decide +kernel
theorem d_Memory_canGrow_2 : decode b_Memory_canGrow 2 = .ok (.iadd, 1) := by decide +kernel
theorem d_Memory_canGrow_3 : decode b_Memory_canGrow 3 = .ok (.sipush 1000, 3) := by decide +kernel
theorem d_Memory_canGrow_6 : decode b_Memory_canGrow 6 = .ok (.if_icmp .le 5, 3) := by decide +kernel
theorem d_Memory_canGrow_11 : decode b_Memory_canGrow 11 = .ok (.iload_n 1, 1) := by decide +kernel
theorem d_Memory_canGrow_12 : decode b_Memory_canGrow 12 = .ok (.iload_n 2, 1) := by decide +kernel
theorem d_Memory_canGrow_13 : decode b_Memory_canGrow 13 = .ok (.iadd, 1) := by decide +kernel
theorem d_Memory_canGrow_14 : decode b_Memory_canGrow 14 = .ok (.istore 4, 2) := by decide +kernel
theorem d_Memory_canGrow_16 : decode b_Memory_canGrow 16 = .ok (.iload 4, 2) := by decide +kernel
theorem d_Memory_canGrow_18 : decode b_Memory_canGrow 18 = .ok (.iload_n 1, 1) := by decide +kernel
theorem d_Memory_canGrow_19 : decode b_Memory_canGrow 19 = .ok (.iload_n 3, 1) := by decide +kernel
theorem d_Memory_canGrow_20 : decode b_Memory_canGrow 20 = .ok (.iadd, 1) := by decide +kernel
theorem d_Memory_canGrow_21 : decode b_Memory_canGrow 21 = .ok (.if_icmp .ge 33, 3) := by decide +kernel
theorem d_Memory_canGrow_54 : decode b_Memory_canGrow 54 = .ok (.iconst 1, 1) := by decide +kernel
theorem d_Memory_canGrow_55 : decode b_Memory_canGrow 55 = .ok (.ireturn, 1) := by decide +kernel
theorem d_Memory_canGrow_24 : decode b_Memory_canGrow 24 = .ok (.iload 4, 2) := by decide +kernel
theorem d_Memory_canGrow_26 : decode b_Memory_canGrow 26 = .ok (.sipush 400, 3) := by decide +kernel
theorem d_Memory_canGrow_29 : decode b_Memory_canGrow 29 = .ok (.if_icmp .lt 17, 3) := by decide +kernel
theorem d_Memory_canGrow_46 : decode b_Memory_canGrow 46 = .ok (.iconst 0, 1) := by decide +kernel
theorem d_Memory_canGrow_47 : decode b_Memory_canGrow 47 = .ok (.ireturn, 1) := by decide +kernel
theorem d_Memory_canGrow_32 : decode b_Memory_canGrow 32 = .ok (.aload_n 0, 1) := by decide +kernel
theorem d_Memory_canGrow_33 : decode b_Memory_canGrow 33 = .ok (.getfield 13, 3) := by decide +kernel
theorem d_Memory_canGrow_36 : decode b_Memory_canGrow 36 = .ok (.iload 4, 2) := by decide +kernel
theorem d_Memory_canGrow_38 : decode b_Memory_canGrow 38 = .ok (.sipush 400, 3) := by decide +kernel
theorem d_Memory_canGrow_41 : decode b_Memory_canGrow 41 = .ok (.isub, 1) := by decide +kernel
theorem d_Memory_canGrow_42 : decode b_Memory_canGrow 42 = .ok (.iaload, 1) := by decide +kernel
theorem d_Memory_canGrow_43 : decode b_Memory_canGrow 43 = .ok (.ifCond .eq 5, 3) := by decide +kernel
theorem d_Memory_canGrow_48 : decode b_Memory_canGrow 48 = .ok (.iinc 4 1, 3) := by decide +kernel
theorem d_Memory_canGrow_51 : decode b_Memory_canGrow 51 = .ok (.goto (-35), 3) := by decide +kernel
theorem d_Memory_canGrow_9 : decode b_Memory_canGrow 9 = .ok (.iconst 0, 1) := by decide +kernel
theorem d_Memory_canGrow_10 : decode b_Memory_canGrow 10 = .ok (.ireturn, 1) := by decide +kernel
theorem d_Memory_grow_0 : decode b_Memory_grow 0 = .ok (.aload_n 0, 1) := by decide +kernel
theorem d_Memory_grow_1 : decode b_Memory_grow 1 = .ok (.iload_n 1, 1) := by decide +kernel
theorem d_Memory_grow_2 : decode b_Memory_grow 2 = .ok (.iload_n 2, 1) := by decide +kernel
theorem d_Memory_grow_3 : decode b_Memory_grow 3 = .ok (.iadd, 1) := by decide +kernel
theorem d_Memory_grow_4 : decode b_Memory_grow 4 = .ok (.iload_n 1, 1) := by decide +kernel
theorem d_Memory_grow_5 : decode b_Memory_grow 5 = .ok (.iload_n 3, 1) := by decide +kernel
theorem d_Memory_grow_6 : decode b_Memory_grow 6 = .ok (.iadd, 1) := by decide +kernel
theorem d_Memory_grow_7 : decode b_Memory_grow 7 = .ok (.iload_n 1, 1) := by decide +kernel
theorem d_Memory_grow_8 : decode b_Memory_grow 8 = .ok (.invokevirtual 34, 3) := by decide +kernel
theorem d_Memory_grow_11 : decode b_Memory_grow 11 = .ok (.aload_n 0, 1) := by decide +kernel
theorem d_Memory_grow_12 : decode b_Memory_grow 12 = .ok (.iload_n 1, 1) := by decide +kernel
theorem d_Memory_grow_13 : decode b_Memory_grow 13 = .ok (.iload_n 2, 1) := by decide +kernel
theorem d_Memory_grow_14 : decode b_Memory_grow 14 = .ok (.iadd, 1) := by decide +kernel
theorem d_Memory_grow_15 : decode b_Memory_grow 15 = .ok (.iload_n 1, 1) := by decide +kernel
theorem d_Memory_grow_16 : decode b_Memory_grow 16 = .ok (.iload_n 3, 1) := by decide +kernel
theorem d_Memory_grow_17 : decode b_Memory_grow 17 = .ok (.iadd, 1) := by decide +kernel
theorem d_Memory_grow_18 : decode b_Memory_grow 18 = .ok (.invokevirtual 38, 3) := by decide +kernel
theorem d_Memory_grow_21 : decode b_Memory_grow 21 = .ok (.iload_n 1, 1) := by decide +kernel
theorem d_Memory_grow_22 : decode b_Memory_grow 22 = .ok (.ireturn, 1) := by decide +kernel
theorem d_Memory_move_0 : decode b_Memory_move 0 = .ok (.aload_n 0, 1) := by decide +kernel
theorem d_Memory_move_1 : decode b_Memory_move 1 = .ok (.iload_n 3, 1) := by decide +kernel
theorem d_Memory_move_2 : decode b_Memory_move 2 = .ok (.invokevirtual 30, 3) := by decide +kernel
theorem d_Memory_move_5 : decode b_Memory_move 5 = .ok (.istore 4, 2) := by decide +kernel
theorem d_Memory_move_7 : decode b_Memory_move 7 = .ok (.iload 4, 2) := by decide +kernel
theorem d_Memory_move_9 : decode b_Memory_move 9 = .ok (.ifCond .ne 5, 3) := by decide +kernel
theorem d_Memory_move_14 : decode b_Memory_move 14 = .ok (.iconst 0, 1) := by decide +kernel
theorem d_Memory_move_15 : decode b_Memory_move 15 = .ok (.istore 5, 2) := by decide +kernel
theorem d_Memory_move_17 : decode b_Memory_move 17 = .ok (.iload 5, 2) := by decide +kernel
theorem d_Memory_move_19 : decode b_Memory_move 19 = .ok (.iload_n 2, 1) := by decide +kernel
theorem d_Memory_move_20 : decode b_Memory_move 20 = .ok (.if_icmp .ge 26, 3) := by decide +kernel
theorem d_Memory_move_46 : decode b_Memory_move 46 = .ok (.aload_n 0, 1) := by decide +kernel
theorem d_Memory_move_47 : decode b_Memory_move 47 = .ok (.iload 4, 2) := by decide +kernel
theorem d_Memory_move_49 : decode b_Memory_move 49 = .ok (.iload_n 2, 1) := by decide +kernel
theorem d_Memory_move_50 : decode b_Memory_move 50 = .ok (.iadd, 1) := by decide +kernel
theorem d_Memory_move_51 : decode b_Memory_move 51 = .ok (.iload 4, 2) := by decide +kernel
theorem d_Memory_move_53 : decode b_Memory_move 53 = .ok (.iload_n 3, 1) := by decide +kernel
theorem d_Memory_move_54 : decode b_Memory_move 54 = .ok (.iadd, 1) := by decide +kernel
theorem d_Memory_move_55 : decode b_Memory_move 55 = .ok (.invokevirtual 38, 3) := by decide +kernel
theorem d_Memory_move_58 : decode b_Memory_move 58 = .ok (.aload_n 0, 1) := by decide +kernel
theorem d_Memory_move_59 : decode b_Memory_move 59 = .ok (.iload 4, 2) := by decide +kernel
theorem d_Memory_move_61 : decode b_Memory_move 61 = .ok (.iload 4, 2) := by decide +kernel
theorem d_Memory_move_63 : decode b_Memory_move 63 = .ok (.iload_n 3, 1) := by decide +kernel
theorem d_Memory_move_64 : decode b_Memory_move 64 = .ok (.iadd, 1) := by decide +kernel
theorem d_Memory_move_65 : decode b_Memory_move 65 = .ok (.iload 4, 2) := by decide +kernel
theorem d_Memory_move_67 : decode b_Memory_move 67 = .ok (.invokevirtual 34, 3) := by decide +kernel
theorem d_Memory_move_70 : decode b_Memory_move 70 = .ok (.aload_n 0, 1) := by decide +kernel
theorem d_Memory_move_71 : decode b_Memory_move 71 = .ok (.iload_n 1, 1) := by decide +kernel
theorem d_Memory_move_72 : decode b_Memory_move 72 = .ok (.iload_n 1, 1) := by decide +kernel
theorem d_Memory_move_73 : decode b_Memory_move 73 = .ok (.iload_n 2, 1) := by decide +kernel
theorem d_Memory_move_74 : decode b_Memory_move 74 = .ok (.iadd, 1) := by decide +kernel
theorem d_Memory_move_75 : decode b_Memory_move 75 = .ok (.iconst 0, 1) := by decide +kernel
theorem d_Memory_move_76 : decode b_Memory_move 76 = .ok (.invokevirtual 34, 3) := by decide +kernel
theorem d_Memory_move_79 : decode b_Memory_move 79 = .ok (.iload 4, 2) := by decide +kernel
theorem d_Memory_move_81 : decode b_Memory_move 81 = .ok (.ireturn, 1) := by decide +kernel
theorem d_Memory_move_23 : decode b_Memory_move 23 = .ok (.aload_n 0, 1) := by decide +kernel
theorem d_Memory_move_24 : decode b_Memory_move 24 = .ok (.iload 4, 2) := by decide +kernel
theorem d_Memory_move_26 : decode b_Memory_move 26 = .ok (.iload 5, 2) := by decide +kernel
theorem d_Memory_move_28 : decode b_Memory_move 28 = .ok (.iadd, 1) := by decide +kernel
theorem d_Memory_move_29 : decode b_Memory_move 29 = .ok (.aload_n 0, 1) := by decide +kernel
theorem d_Memory_move_30 : decode b_Memory_move 30 = .ok (.iload_n 1, 1) := by decide +kernel
theorem d_Memory_move_31 : decode b_Memory_move 31 = .ok (.iload 5, 2) := by decide +kernel
theorem d_Memory_move_33 : decode b_Memory_move 33 = .ok (.iadd, 1) := by decide +kernel
theorem d_Memory_move_34 : decode b_Memory_move 34 = .ok (.invokevirtual 59, 3) := by decide +kernel
theorem d_Memory_move_37 : decode b_Memory_move 37 = .ok (.invokevirtual 62, 3) := by decide +kernel
theorem d_Memory_move_40 : decode b_Memory_move 40 = .ok (.iinc 5 1, 3) := by decide +kernel
theorem d_Memory_move_43 : decode b_Memory_move 43 = .ok (.goto (-26), 3) := by decide +kernel
theorem d_Memory_move_12 : decode b_Memory_move 12 = .ok (.iconst 0, 1) := by decide +kernel
theorem d_Memory_move_13 : decode b_Memory_move 13 = .ok (.ireturn, 1) := by decide +kernel
theorem d_Memory_resize_0 : decode b_Memory_resize 0 = .ok (.aload_n 0, 1) := by decide +kernel
theorem d_Memory_resize_1 : decode b_Memory_resize 1 = .ok (.iload_n 1, 1) := by decide +kernel
theorem d_Memory_resize_2 : decode b_Memory_resize 2 = .ok (.invokevirtual 42, 3) := by decide +kernel
theorem d_Memory_resize_5 : decode b_Memory_resize 5 = .ok (.ifCond .eq 15, 3) := by decide +kernel
theorem d_Memory_resize_20 : decode b_Memory_resize 20 = .ok (.iconst 0, 1) := by decide +kernel
theorem d_Memory_resize_21 : decode b_Memory_resize 21 = .ok (.ireturn, 1) := by decide +kernel
theorem d_Memory_resize_8 : decode b_Memory_resize 8 = .ok (.iload_n 2, 1) := by decide +kernel
theorem d_Memory_resize_9 : decode b_Memory_resize 9 = .ok (.iconst 1, 1) := by decide +kernel
theorem d_Memory_resize_10 : decode b_Memory_resize 10 = .ok (.if_icmp .lt 10, 3) := by decide +kernel
theorem d_Memory_resize_13 : decode b_Memory_resize 13 = .ok (.iload_n 2, 1) := by decide +kernel
theorem d_Memory_resize_14 : decode b_Memory_resize 14 = .ok (.sipush 600, 3) := by decide +kernel
theorem d_Memory_resize_17 : decode b_Memory_resize 17 = .ok (.if_icmp .le 5, 3) := by decide +kernel
theorem d_Memory_resize_22 : decode b_Memory_resize 22 = .ok (.aload_n 0, 1) := by decide +kernel
theorem d_Memory_resize_23 : decode b_Memory_resize 23 = .ok (.iload_n 1, 1) := by decide +kernel
theorem d_Memory_resize_24 : decode b_Memory_resize 24 = .ok (.invokevirtual 45, 3) := by decide +kernel
theorem d_Memory_resize_27 : decode b_Memory_resize 27 = .ok (.istore_n 3, 1) := by decide +kernel
theorem d_Memory_resize_28 : decode b_Memory_resize 28 = .ok (.iload_n 2, 1) := by decide +kernel
theorem d_Memory_resize_29 : decode b_Memory_resize 29 = .ok (.iload_n 3, 1) := by decide +kernel
theorem d_Memory_resize_30 : decode b_Memory_resize 30 = .ok (.if_icmp .gt 16, 3) := by decide +kernel
theorem d_Memory_resize_46 : decode b_Memory_resize 46 = .ok (.aload_n 0, 1) := by decide +kernel
theorem d_Memory_resize_47 : decode b_Memory_resize 47 = .ok (.iload_n 1, 1) := by decide +kernel
theorem d_Memory_resize_48 : decode b_Memory_resize 48 = .ok (.iload_n 3, 1) := by decide +kernel
theorem d_Memory_resize_49 : decode b_Memory_resize 49 = .ok (.iload_n 2, 1) := by decide +kernel
theorem d_Memory_resize_50 : decode b_Memory_resize 50 = .ok (.invokevirtual 48, 3) := by decide +kernel
theorem d_Memory_resize_53 : decode b_Memory_resize 53 = .ok (.ifCond .eq 13, 3) := by decide +kernel
theorem d_Memory_resize_66 : decode b_Memory_resize 66 = .ok (.aload_n 0, 1) := by decide +kernel
theorem d_Memory_resize_67 : decode b_Memory_resize 67 = .ok (.iload_n 1, 1) := by decide +kernel
theorem d_Memory_resize_68 : decode b_Memory_resize 68 = .ok (.iload_n 3, 1) := by decide +kernel
theorem d_Memory_resize_69 : decode b_Memory_resize 69 = .ok (.iload_n 2, 1) := by decide +kernel
theorem d_Memory_resize_70 : decode b_Memory_resize 70 = .ok (.invokevirtual 56, 3) := by decide +kernel
theorem d_Memory_resize_73 : decode b_Memory_resize 73 = .ok (.ireturn, 1) := by decide +kernel
theorem d_Memory_resize_56 : decode b_Memory_resize 56 = .ok (.aload_n 0, 1) := by decide +kernel
theorem d_Memory_resize_57 : decode b_Memory_resize 57 = .ok (.iload_n 1, 1) := by decide +kernel
theorem d_Memory_resize_58 : decode b_Memory_resize 58 = .ok (.iload_n 3, 1) := by decide +kernel
theorem d_Memory_resize_59 : decode b_Memory_resize 59 = .ok (.iload_n 2, 1) := by decide +kernel
theorem d_Memory_resize_60 : decode b_Memory_resize 60 = .ok (.invokevirtual 52, 3) := by decide +kernel
theorem d_Memory_resize_63 : decode b_Memory_resize 63 = .ok (.goto 10, 3) := by decide +kernel
theorem d_Memory_resize_33 : decode b_Memory_resize 33 = .ok (.aload_n 0, 1) := by decide +kernel
theorem d_Memory_resize_34 : decode b_Memory_resize 34 = .ok (.iload_n 1, 1) := by decide +kernel
theorem d_Memory_resize_35 : decode b_Memory_resize 35 = .ok (.iload_n 2, 1) := by decide +kernel
theorem d_Memory_resize_36 : decode b_Memory_resize 36 = .ok (.iadd, 1) := by decide +kernel
theorem d_Memory_resize_37 : decode b_Memory_resize 37 = .ok (.iload_n 1, 1) := by decide +kernel
theorem d_Memory_resize_38 : decode b_Memory_resize 38 = .ok (.iload_n 3, 1) := by decide +kernel
theorem d_Memory_resize_39 : decode b_Memory_resize 39 = .ok (.iadd, 1) := by decide +kernel
theorem d_Memory_resize_40 : decode b_Memory_resize 40 = .ok (.iconst 0, 1) := by decide +kernel
theorem d_Memory_resize_41 : decode b_Memory_resize 41 = .ok (.invokevirtual 34, 3) := by decide +kernel
theorem d_Memory_resize_44 : decode b_Memory_resize 44 = .ok (.iload_n 1, 1) := by decide +kernel
theorem d_Memory_resize_45 : decode b_Memory_resize 45 = .ok (.ireturn, 1) := by decide +kernel
/-- the picture of ColonMachine$Memory.base -/
def F_Memory_base (fc : Nat → Int32) : Int32 := fc (0 : Int32).toNatClampNeg
theorem F_Memory_base_e (fc : Nat → Int32) : F_Memory_base fc = fc (0 : Int32).toNatClampNeg := rfl
set_option maxHeartbeats 4000000 in
set_option maxRecDepth 100000 in
theorem c_Memory_base (l : Launch) (D : va_G) (cI cJ cZ cW cT : ClassId) (sz : Nat) (h : Nat) (ac : Nat) (ab : Nat) (he : Int32) (fc : Nat → Int32) (hi : MemOk he) : Met l y_Memory_base w_Memory_base ({ frames := 0, cells := 0, slots := 0, locals := 0 }) (va_Pc [.ref h] (zP D classes (TY cI cJ cZ cW cT) [(h, .inr (4, [.ref ac, .ref ab, .int he])), (ac, .inl (cI, 1000, .inl fc))] sz)) (va_Qi (fun (r : Int32) (_ : Unit) => r = F_Memory_base fc ∧ (True)) (fun _ => zB D classes (TY cI cJ cZ cW cT) (va_A [(h, .inr (4, [.ref ac, .ref ab, .int he])), (ac, .inl (cI, 1000, .inl fc))] sz) [(h, .inr (4, [.ref ac, .ref ab, .int he])), (ac, .inl (cI, 1000, .inl fc))]) (va_A [(h, .inr (4, [.ref ac, .ref ab, .int he])), (ac, .inl (cI, 1000, .inl fc))] sz)) 0 0 (va_A [(h, .inr (4, [.ref ac, .ref ab, .int he])), (ac, .inl (cI, 1000, .inl fc))] sz) := by
  refine Met.ofW (cc := b_Memory_base) (maxL := 1) (ret := (some .int)) (by decide) rfl ?_
  intro p e s m args below meth c s₁ B hml hv
  obtain ⟨rfl, hsz, hP, hK, hD0, hE⟩ := hv
  have hx := B.exec
  have hb := B.bytes
  have hr := B.returns
  have hts := atoms_spec (ws := w_Memory_base) B.pre
  have hT : ∀ w ∈ TB, w.before _ s = true := fun w h => hts w (List.mem_cons_of_mem _ h)
  have hown : s.vm.findClass "ColonMachine$Memory" = some m.cls := findClass_of_methodNamed B.named
  have hlocks := B.notSynchronized
  subst hsz
  have hD := hD0.self (sz := s.heap.size)
  generalize hAe : va_A [(h, .inr (4, [.ref ac, .ref ab, .int he])), (ac, .inl (cI, 1000, .inl fc))] s.heap.size = A at hD hE ⊢
  have hA : ∀ q : Nat, s.heap.size ≤ q → A q := fun q h => by rw [← hAe]; exact Or.inr h
  have hS : va_S A s.heap s.heap [] := va_S.rf
  have hl := lv_entry [.ref h] (n := 1) (Nat.le_of_ble_eq_true rfl)
  rw [lg_entry_eq]
  generalize (lg_sl [.ref h] ++ List.replicate (1 - (lg_sl [.ref h]).length) Slot.unset).toArray = ls at hl ⊢
  have hl : lv_has ls 1 [(0, .ref h)] := hl
  have hF := F_Memory_base_e fc
  refine lv_aload_n hx hb d_Memory_base_0 rfl (lv_at hl 0 rfl) ?_
  refine va_get (D := D) (v := .ref ac) (C := "ColonMachine$Memory") (T := T_Memory) (N := 3) hx hb hT i_Memory hown hK hP 0 rfl rfl 0 (by decide) (hT _ fl_Memory_9) (fun _ h9 => h9) rfl d_Memory_base_1 ?_
  refine lv_iconst (v := 0) hx hb d_Memory_base_4 (by decide) ?_
  refine va_iald hx hb hK hP 1 0 rfl rfl (by have := ti_lo he; have := ti_hi he; have t0 : Int32.toInt 0 = 0 := rfl; have t1000 : Int32.toInt 1000 = 1000 := rfl; rw [vp_in_iff]; (try simp only [true_or, or_true, true_and, and_true, z_tn, CellsOk, CallsOk, TextOk, MemOk, OutOk, Int32.lt_iff_toInt_lt, Int32.le_iff_toInt_le, ← Int32.toInt_inj, Int32.toInt_add, Int32.toInt_sub, Int32.toInt_mul, Int32.toInt_neg, zbm, zbm', t0, t1000] at hi ⊢) <;> omega) d_Memory_base_5 ?_
  exact W.iret (v := fc (0 : Int32).toNatClampNeg) hx hb hr (fun t ht hW => ⟨⟨_, (), rfl, ⟨hF.symm, trivial⟩, ⟨by rw [ht]; exact hP, va_K.moved hW.alike hK, hD⟩⟩, hS.F ht⟩) hS.2.2 d_Memory_base_6
/-- the picture of ColonMachine$Memory.isBase -/
def F_Memory_isBase (x1 : Int32) : Int32 := if x1 < 2 then 0 else (if 36 < x1 then 0 else 1)
theorem F_Memory_isBase_e (x1 : Int32) : F_Memory_isBase x1 = if x1 < 2 then 0 else (if 36 < x1 then 0 else 1) := rfl
set_option maxHeartbeats 4000000 in
set_option maxRecDepth 100000 in
theorem c_Memory_isBase (l : Launch) (D : va_G) (cI cJ cZ cW cT : ClassId) (sz : Nat) (x1 : Int32)  : Met l y_Memory_isBase w_Memory_isBase ({ frames := 0, cells := 0, slots := 0, locals := 0 }) (va_Pc [.int x1] (zP D classes (TY cI cJ cZ cW cT) [] sz)) (va_Qi (fun (r : Int32) (_ : Unit) => r = F_Memory_isBase x1 ∧ ((r.toInt = 0 ∨ 2 ≤ x1.toInt ∧ x1.toInt ≤ 36) ∧ (r = 0 ∨ r = 1))) (fun _ => zB D classes (TY cI cJ cZ cW cT) (va_A [] sz) []) (va_A [] sz)) 0 0 (va_A [] sz) := by
  refine Met.ofW (cc := b_Memory_isBase) (maxL := 1) (ret := (some .boolean)) (by decide) rfl ?_
  intro p e s m args below meth c s₁ B hml hv
  obtain ⟨rfl, hsz, hP, hK, hD0, hE⟩ := hv
  have hx := B.exec
  have hb := B.bytes
  have hr := B.returns
  have hts := atoms_spec (ws := w_Memory_isBase) B.pre
  have hT : ∀ w ∈ TB, w.before _ s = true := fun w h => hts w (List.mem_cons_of_mem _ h)
  have hown : s.vm.findClass "ColonMachine$Memory" = some m.cls := findClass_of_methodNamed B.named
  have hlocks := B.notSynchronized
  subst hsz
  have hD := hD0.self (sz := s.heap.size)
  generalize hAe : va_A [] s.heap.size = A at hD hE ⊢
  have hA : ∀ q : Nat, s.heap.size ≤ q → A q := fun q h => by rw [← hAe]; exact Or.inr h
  have hS : va_S A s.heap s.heap [] := va_S.rf
  have hl := lv_entry [.int x1] (n := 1) (Nat.le_of_ble_eq_true rfl)
  rw [lg_entry_eq]
  generalize (lg_sl [.int x1] ++ List.replicate (1 - (lg_sl [.int x1]).length) Slot.unset).toArray = ls at hl ⊢
  have hl : lv_has ls 1 [(0, .int x1)] := hl
  have hF := F_Memory_isBase_e x1
  refine lv_iload_n hx hb d_Memory_isBase_0 rfl (lv_at hl 0 rfl) ?_
  refine lv_iconst (v := 2) hx hb d_Memory_isBase_1 (by decide) ?_
  refine lv_icmp_lt (tgt := 15) hx hb d_Memory_isBase_2 (by decide) (fun c1 => ?_) (fun c1 => ?_)
  · have hF := hF.trans (if_pos c1)
    refine lv_iconst (v := 0) hx hb d_Memory_isBase_15 (by decide) ?_
    exact W.zret (v := 0) hx hb hr rfl (fun t ht hW => ⟨⟨_, (), rfl, ⟨hF.symm, ⟨(by have := ti_lo x1; have := ti_hi x1; have t0 : Int32.toInt 0 = 0 := rfl; have t2 : Int32.toInt 2 = 2 := rfl; have t36 : Int32.toInt 36 = 36 := rfl; (try simp only [true_or, or_true, true_and, and_true, z_tn, CellsOk, CallsOk, TextOk, MemOk, OutOk, Int32.lt_iff_toInt_lt, Int32.le_iff_toInt_le, ← Int32.toInt_inj, Int32.toInt_add, Int32.toInt_sub, Int32.toInt_mul, Int32.toInt_neg, zbm, zbm', t0, t2, t36] at c1 ⊢) <;> omega), (Or.inl rfl)⟩⟩, ⟨by rw [ht]; exact hP, va_K.moved hW.alike hK, hD⟩⟩, hS.F ht⟩) hS.2.2 d_Memory_isBase_16
  · have hF := hF.trans (if_neg c1)
    refine lv_iload_n hx hb d_Memory_isBase_5 rfl (lv_at hl 0 rfl) ?_
    refine lv_bipush (v := 36) hx hb d_Memory_isBase_6 (by decide) ?_
    refine lv_icmp_gt (tgt := 15) hx hb d_Memory_isBase_8 (by decide) (fun c2 => ?_) (fun c2 => ?_)
    · have hF := hF.trans (if_pos c2)
      refine lv_iconst (v := 0) hx hb d_Memory_isBase_15 (by decide) ?_
      exact W.zret (v := 0) hx hb hr rfl (fun t ht hW => ⟨⟨_, (), rfl, ⟨hF.symm, ⟨(by have := ti_lo x1; have := ti_hi x1; have t0 : Int32.toInt 0 = 0 := rfl; have t2 : Int32.toInt 2 = 2 := rfl; have t36 : Int32.toInt 36 = 36 := rfl; (try simp only [true_or, or_true, true_and, and_true, z_tn, CellsOk, CallsOk, TextOk, MemOk, OutOk, Int32.lt_iff_toInt_lt, Int32.le_iff_toInt_le, ← Int32.toInt_inj, Int32.toInt_add, Int32.toInt_sub, Int32.toInt_mul, Int32.toInt_neg, zbm, zbm', t0, t2, t36] at c1 c2 ⊢) <;> omega), (Or.inl rfl)⟩⟩, ⟨by rw [ht]; exact hP, va_K.moved hW.alike hK, hD⟩⟩, hS.F ht⟩) hS.2.2 d_Memory_isBase_16
    · have hF := hF.trans (if_neg c2)
      refine lv_iconst (v := 1) hx hb d_Memory_isBase_11 (by decide) ?_
      refine lv_goto (tgt := 16) hx hb d_Memory_isBase_12 (by decide) ?_
      exact W.zret (v := 1) hx hb hr rfl (fun t ht hW => ⟨⟨_, (), rfl, ⟨hF.symm, ⟨(by have := ti_lo x1; have := ti_hi x1; have t1 : Int32.toInt 1 = 1 := rfl; have t0 : Int32.toInt 0 = 0 := rfl; have t2 : Int32.toInt 2 = 2 := rfl; have t36 : Int32.toInt 36 = 36 := rfl; (try simp only [true_or, or_true, true_and, and_true, z_tn, CellsOk, CallsOk, TextOk, MemOk, OutOk, Int32.lt_iff_toInt_lt, Int32.le_iff_toInt_le, ← Int32.toInt_inj, Int32.toInt_add, Int32.toInt_sub, Int32.toInt_mul, Int32.toInt_neg, zbm, zbm', t1, t0, t2, t36] at c1 c2 ⊢) <;> omega), (Or.inr rfl)⟩⟩, ⟨by rw [ht]; exact hP, va_K.moved hW.alike hK, hD⟩⟩, hS.F ht⟩) hS.2.2 d_Memory_isBase_16
/-- the picture of ColonMachine$Memory.here -/
def F_Memory_here (he : Int32) : Int32 := he
theorem F_Memory_here_e (he : Int32) : F_Memory_here he = he := rfl
set_option maxHeartbeats 4000000 in
set_option maxRecDepth 100000 in
theorem c_Memory_here (l : Launch) (D : va_G) (cI cJ cZ cW cT : ClassId) (sz : Nat) (h : Nat) (ac : Nat) (ab : Nat) (he : Int32) (hi : MemOk he) : Met l y_Memory_here w_Memory_here ({ frames := 0, cells := 0, slots := 0, locals := 0 }) (va_Pc [.ref h] (zP D classes (TY cI cJ cZ cW cT) [(h, .inr (4, [.ref ac, .ref ab, .int he]))] sz)) (va_Qi (fun (r : Int32) (_ : Unit) => r = F_Memory_here he ∧ (True)) (fun _ => zB D classes (TY cI cJ cZ cW cT) (va_A [(h, .inr (4, [.ref ac, .ref ab, .int he]))] sz) [(h, .inr (4, [.ref ac, .ref ab, .int he]))]) (va_A [(h, .inr (4, [.ref ac, .ref ab, .int he]))] sz)) 0 0 (va_A [(h, .inr (4, [.ref ac, .ref ab, .int he]))] sz) := by
  refine Met.ofW (cc := b_Memory_here) (maxL := 1) (ret := (some .int)) (by decide) rfl ?_
  intro p e s m args below meth c s₁ B hml hv
  obtain ⟨rfl, hsz, hP, hK, hD0, hE⟩ := hv
  have hx := B.exec
  have hb := B.bytes
  have hr := B.returns
  have hts := atoms_spec (ws := w_Memory_here) B.pre
  have hT : ∀ w ∈ TB, w.before _ s = true := fun w h => hts w (List.mem_cons_of_mem _ h)
  have hown : s.vm.findClass "ColonMachine$Memory" = some m.cls := findClass_of_methodNamed B.named
  have hlocks := B.notSynchronized
  subst hsz
  have hD := hD0.self (sz := s.heap.size)
  generalize hAe : va_A [(h, .inr (4, [.ref ac, .ref ab, .int he]))] s.heap.size = A at hD hE ⊢
  have hA : ∀ q : Nat, s.heap.size ≤ q → A q := fun q h => by rw [← hAe]; exact Or.inr h
  have hS : va_S A s.heap s.heap [] := va_S.rf
  have hl := lv_entry [.ref h] (n := 1) (Nat.le_of_ble_eq_true rfl)
  rw [lg_entry_eq]
  generalize (lg_sl [.ref h] ++ List.replicate (1 - (lg_sl [.ref h]).length) Slot.unset).toArray = ls at hl ⊢
  have hl : lv_has ls 1 [(0, .ref h)] := hl
  have hF := F_Memory_here_e he
  refine lv_aload_n hx hb d_Memory_here_0 rfl (lv_at hl 0 rfl) ?_
  refine va_get (D := D) (v := .int he) (C := "ColonMachine$Memory") (T := T_Memory) (N := 3) hx hb hT i_Memory hown hK hP 0 rfl rfl 2 (by decide) (hT _ fl_Memory_16) (fun _ h9 => h9) rfl d_Memory_here_1 ?_
  exact W.iret (v := he) hx hb hr (fun t ht hW => ⟨⟨_, (), rfl, ⟨hF.symm, trivial⟩, ⟨by rw [ht]; exact hP, va_K.moved hW.alike hK, hD⟩⟩, hS.F ht⟩) hS.2.2 d_Memory_here_4
/-- the picture of ColonMachine$Memory.isValid -/
def F_Memory_isValid (he : Int32) (fb : Nat → Int32) (x1 : Int32) : Int32 := if x1 < 0 then 0 else (if x1 < 1000 then (if x1 < he then 1 else (if x1 < 400 then 0 else (if (fb (x1 - 400).toNatClampNeg) = 0 then 0 else 1))) else 0)
theorem F_Memory_isValid_e (he : Int32) (fb : Nat → Int32) (x1 : Int32) : F_Memory_isValid he fb x1 = if x1 < 0 then 0 else (if x1 < 1000 then (if x1 < he then 1 else (if x1 < 400 then 0 else (if (fb (x1 - 400).toNatClampNeg) = 0 then 0 else 1))) else 0) := rfl
set_option maxHeartbeats 4000000 in
set_option maxRecDepth 100000 in
theorem c_Memory_isValid (l : Launch) (D : va_G) (cI cJ cZ cW cT : ClassId) (sz : Nat) (h : Nat) (ac : Nat) (ab : Nat) (he : Int32) (fb : Nat → Int32) (x1 : Int32) (hi : MemOk he) : Met l y_Memory_isValid w_Memory_isValid ({ frames := 0, cells := 0, slots := 0, locals := 0 }) (va_Pc [.ref h, .int x1] (zP D classes (TY cI cJ cZ cW cT) [(h, .inr (4, [.ref ac, .ref ab, .int he])), (ab, .inl (cI, 600, .inl fb))] sz)) (va_Qi (fun (r : Int32) (_ : Unit) => r = F_Memory_isValid he fb x1 ∧ ((r = 0 ∨ r = 1))) (fun _ => zB D classes (TY cI cJ cZ cW cT) (va_A [(h, .inr (4, [.ref ac, .ref ab, .int he])), (ab, .inl (cI, 600, .inl fb))] sz) [(h, .inr (4, [.ref ac, .ref ab, .int he])), (ab, .inl (cI, 600, .inl fb))]) (va_A [(h, .inr (4, [.ref ac, .ref ab, .int he])), (ab, .inl (cI, 600, .inl fb))] sz)) 0 0 (va_A [(h, .inr (4, [.ref ac, .ref ab, .int he])), (ab, .inl (cI, 600, .inl fb))] sz) := by
  refine Met.ofW (cc := b_Memory_isValid) (maxL := 2) (ret := (some .boolean)) (by decide) rfl ?_
  intro p e s m args below meth c s₁ B hml hv
  obtain ⟨rfl, hsz, hP, hK, hD0, hE⟩ := hv
  have hx := B.exec
  have hb := B.bytes
  have hr := B.returns
  have hts := atoms_spec (ws := w_Memory_isValid) B.pre
  have hT : ∀ w ∈ TB, w.before _ s = true := fun w h => hts w (List.mem_cons_of_mem _ h)
  have hown : s.vm.findClass "ColonMachine$Memory" = some m.cls := findClass_of_methodNamed B.named
  have hlocks := B.notSynchronized
  subst hsz
  have hD := hD0.self (sz := s.heap.size)
  generalize hAe : va_A [(h, .inr (4, [.ref ac, .ref ab, .int he])), (ab, .inl (cI, 600, .inl fb))] s.heap.size = A at hD hE ⊢
  have hA : ∀ q : Nat, s.heap.size ≤ q → A q := fun q h => by rw [← hAe]; exact Or.inr h
  have hS : va_S A s.heap s.heap [] := va_S.rf
  have hl := lv_entry [.ref h, .int x1] (n := 2) (Nat.le_of_ble_eq_true rfl)
  rw [lg_entry_eq]
  generalize (lg_sl [.ref h, .int x1] ++ List.replicate (2 - (lg_sl [.ref h, .int x1]).length) Slot.unset).toArray = ls at hl ⊢
  have hl : lv_has ls 2 [(0, .ref h), (1, .int x1)] := hl
  have hF := F_Memory_isValid_e he fb x1
  refine lv_iload_n hx hb d_Memory_isValid_0 rfl (lv_at hl 1 rfl) ?_
  refine lv_if_lt (tgt := 11) hx hb d_Memory_isValid_1 (by decide) (fun c1 => ?_) (fun c1 => ?_)
  · have hF := hF.trans (if_pos c1)
    refine lv_iconst (v := 0) hx hb d_Memory_isValid_11 (by decide) ?_
    exact W.zret (v := 0) hx hb hr rfl (fun t ht hW => ⟨⟨_, (), rfl, ⟨hF.symm, (Or.inl rfl)⟩, ⟨by rw [ht]; exact hP, va_K.moved hW.alike hK, hD⟩⟩, hS.F ht⟩) hS.2.2 d_Memory_isValid_12
  · have hF := hF.trans (if_neg c1)
    refine lv_iload_n hx hb d_Memory_isValid_4 rfl (lv_at hl 1 rfl) ?_
    refine lv_sipush (v := 1000) hx hb d_Memory_isValid_5 (by decide) ?_
    refine lv_icmp_lt (tgt := 13) hx hb d_Memory_isValid_8 (by decide) (fun c2 => ?_) (fun c2 => ?_)
    · have hF := hF.trans (if_pos c2)
      refine lv_iload_n hx hb d_Memory_isValid_13 rfl (lv_at hl 1 rfl) ?_
      refine lv_aload_n hx hb d_Memory_isValid_14 rfl (lv_at hl 0 rfl) ?_
      refine va_get (D := D) (v := .int he) (C := "ColonMachine$Memory") (T := T_Memory) (N := 3) hx hb hT i_Memory hown hK hP 0 rfl rfl 2 (by decide) (hT _ fl_Memory_16) (fun _ h9 => h9) rfl d_Memory_isValid_15 ?_
      refine lv_icmp_lt (tgt := 41) hx hb d_Memory_isValid_18 (by decide) (fun c3 => ?_) (fun c3 => ?_)
      · have hF := hF.trans (if_pos c3)
        refine lv_iconst (v := 1) hx hb d_Memory_isValid_41 (by decide) ?_
        refine lv_goto (tgt := 46) hx hb d_Memory_isValid_42 (by decide) ?_
        exact W.zret (v := 1) hx hb hr rfl (fun t ht hW => ⟨⟨_, (), rfl, ⟨hF.symm, (Or.inr rfl)⟩, ⟨by rw [ht]; exact hP, va_K.moved hW.alike hK, hD⟩⟩, hS.F ht⟩) hS.2.2 d_Memory_isValid_46
      · have hF := hF.trans (if_neg c3)
        refine lv_iload_n hx hb d_Memory_isValid_21 rfl (lv_at hl 1 rfl) ?_
        refine lv_sipush (v := 400) hx hb d_Memory_isValid_22 (by decide) ?_
        refine lv_icmp_lt (tgt := 45) hx hb d_Memory_isValid_25 (by decide) (fun c4 => ?_) (fun c4 => ?_)
        · have hF := hF.trans (if_pos c4)
          refine lv_iconst (v := 0) hx hb d_Memory_isValid_45 (by decide) ?_
          exact W.zret (v := 0) hx hb hr rfl (fun t ht hW => ⟨⟨_, (), rfl, ⟨hF.symm, (Or.inl rfl)⟩, ⟨by rw [ht]; exact hP, va_K.moved hW.alike hK, hD⟩⟩, hS.F ht⟩) hS.2.2 d_Memory_isValid_46
        · have hF := hF.trans (if_neg c4)
          refine lv_aload_n hx hb d_Memory_isValid_28 rfl (lv_at hl 0 rfl) ?_
          refine va_get (D := D) (v := .ref ab) (C := "ColonMachine$Memory") (T := T_Memory) (N := 3) hx hb hT i_Memory hown hK hP 0 rfl rfl 1 (by decide) (hT _ fl_Memory_13) (fun _ h9 => h9) rfl d_Memory_isValid_29 ?_
          refine lv_iload_n hx hb d_Memory_isValid_32 rfl (lv_at hl 1 rfl) ?_
          refine lv_sipush (v := 400) hx hb d_Memory_isValid_33 (by decide) ?_
          refine lv_isub hx hb d_Memory_isValid_36 ?_
          refine va_iald hx hb hK hP 1 0 rfl rfl (by have := ti_lo x1; have := ti_hi x1; have := ti_lo he; have := ti_hi he; have t400 : Int32.toInt 400 = 400 := rfl; have t600 : Int32.toInt 600 = 600 := rfl; have t0 : Int32.toInt 0 = 0 := rfl; have t1000 : Int32.toInt 1000 = 1000 := rfl; rw [vp_in_iff]; (try simp only [true_or, or_true, true_and, and_true, z_tn, CellsOk, CallsOk, TextOk, MemOk, OutOk, Int32.lt_iff_toInt_lt, Int32.le_iff_toInt_le, ← Int32.toInt_inj, Int32.toInt_add, Int32.toInt_sub, Int32.toInt_mul, Int32.toInt_neg, zbm, zbm', t400, t600, t0, t1000] at c1 c2 c3 c4 hi ⊢) <;> omega) d_Memory_isValid_37 ?_
          refine lv_if_eq (tgt := 45) hx hb d_Memory_isValid_38 (by decide) (fun c5 => ?_) (fun c5 => ?_)
          · have hF := hF.trans (if_pos c5)
            refine lv_iconst (v := 0) hx hb d_Memory_isValid_45 (by decide) ?_
            exact W.zret (v := 0) hx hb hr rfl (fun t ht hW => ⟨⟨_, (), rfl, ⟨hF.symm, (Or.inl rfl)⟩, ⟨by rw [ht]; exact hP, va_K.moved hW.alike hK, hD⟩⟩, hS.F ht⟩) hS.2.2 d_Memory_isValid_46
          · have hF := hF.trans (if_neg c5)
            refine lv_iconst (v := 1) hx hb d_Memory_isValid_41 (by decide) ?_
            refine lv_goto (tgt := 46) hx hb d_Memory_isValid_42 (by decide) ?_
            exact W.zret (v := 1) hx hb hr rfl (fun t ht hW => ⟨⟨_, (), rfl, ⟨hF.symm, (Or.inr rfl)⟩, ⟨by rw [ht]; exact hP, va_K.moved hW.alike hK, hD⟩⟩, hS.F ht⟩) hS.2.2 d_Memory_isValid_46
    · have hF := hF.trans (if_neg c2)
      refine lv_iconst (v := 0) hx hb d_Memory_isValid_11 (by decide) ?_
      exact W.zret (v := 0) hx hb hr rfl (fun t ht hW => ⟨⟨_, (), rfl, ⟨hF.symm, (Or.inl rfl)⟩, ⟨by rw [ht]; exact hP, va_K.moved hW.alike hK, hD⟩⟩, hS.F ht⟩) hS.2.2 d_Memory_isValid_12
/-- the picture of ColonMachine$Memory.read -/
def F_Memory_read (fc : Nat → Int32) (x1 : Int32) : Int32 := if x1 < 0 then 0 else (if 1000 ≤ x1 then 0 else (fc x1.toNatClampNeg))
theorem F_Memory_read_e (fc : Nat → Int32) (x1 : Int32) : F_Memory_read fc x1 = if x1 < 0 then 0 else (if 1000 ≤ x1 then 0 else (fc x1.toNatClampNeg)) := rfl
set_option maxHeartbeats 4000000 in
set_option maxRecDepth 100000 in
theorem c_Memory_read (l : Launch) (D : va_G) (cI cJ cZ cW cT : ClassId) (sz : Nat) (h : Nat) (ac : Nat) (ab : Nat) (he : Int32) (fc : Nat → Int32) (x1 : Int32) (hi : MemOk he) : Met l y_Memory_read w_Memory_read ({ frames := 0, cells := 0, slots := 0, locals := 0 }) (va_Pc [.ref h, .int x1] (zP D classes (TY cI cJ cZ cW cT) [(h, .inr (4, [.ref ac, .ref ab, .int he])), (ac, .inl (cI, 1000, .inl fc))] sz)) (va_Qi (fun (r : Int32) (_ : Unit) => r = F_Memory_read fc x1 ∧ (True)) (fun _ => zB D classes (TY cI cJ cZ cW cT) (va_A [(h, .inr (4, [.ref ac, .ref ab, .int he])), (ac, .inl (cI, 1000, .inl fc))] sz) [(h, .inr (4, [.ref ac, .ref ab, .int he])), (ac, .inl (cI, 1000, .inl fc))]) (va_A [(h, .inr (4, [.ref ac, .ref ab, .int he])), (ac, .inl (cI, 1000, .inl fc))] sz)) 0 0 (va_A [(h, .inr (4, [.ref ac, .ref ab, .int he])), (ac, .inl (cI, 1000, .inl fc))] sz) := by
  refine Met.ofW (cc := b_Memory_read) (maxL := 2) (ret := (some .int)) (by decide) rfl ?_
  intro p e s m args below meth c s₁ B hml hv
  obtain ⟨rfl, hsz, hP, hK, hD0, hE⟩ := hv
  have hx := B.exec
  have hb := B.bytes
  have hr := B.returns
  have hts := atoms_spec (ws := w_Memory_read) B.pre
  have hT : ∀ w ∈ TB, w.before _ s = true := fun w h => hts w (List.mem_cons_of_mem _ h)
  have hown : s.vm.findClass "ColonMachine$Memory" = some m.cls := findClass_of_methodNamed B.named
  have hlocks := B.notSynchronized
  subst hsz
  have hD := hD0.self (sz := s.heap.size)
  generalize hAe : va_A [(h, .inr (4, [.ref ac, .ref ab, .int he])), (ac, .inl (cI, 1000, .inl fc))] s.heap.size = A at hD hE ⊢
  have hA : ∀ q : Nat, s.heap.size ≤ q → A q := fun q h => by rw [← hAe]; exact Or.inr h
  have hS : va_S A s.heap s.heap [] := va_S.rf
  have hl := lv_entry [.ref h, .int x1] (n := 2) (Nat.le_of_ble_eq_true rfl)
  rw [lg_entry_eq]
  generalize (lg_sl [.ref h, .int x1] ++ List.replicate (2 - (lg_sl [.ref h, .int x1]).length) Slot.unset).toArray = ls at hl ⊢
  have hl : lv_has ls 2 [(0, .ref h), (1, .int x1)] := hl
  have hF := F_Memory_read_e fc x1
  refine lv_iload_n hx hb d_Memory_read_0 rfl (lv_at hl 1 rfl) ?_
  refine lv_if_lt (tgt := 20) hx hb d_Memory_read_1 (by decide) (fun c1 => ?_) (fun c1 => ?_)
  · have hF := hF.trans (if_pos c1)
    refine lv_iconst (v := 0) hx hb d_Memory_read_20 (by decide) ?_
    exact W.iret (v := 0) hx hb hr (fun t ht hW => ⟨⟨_, (), rfl, ⟨hF.symm, trivial⟩, ⟨by rw [ht]; exact hP, va_K.moved hW.alike hK, hD⟩⟩, hS.F ht⟩) hS.2.2 d_Memory_read_21
  · have hF := hF.trans (if_neg c1)
    refine lv_iload_n hx hb d_Memory_read_4 rfl (lv_at hl 1 rfl) ?_
    refine lv_sipush (v := 1000) hx hb d_Memory_read_5 (by decide) ?_
    refine lv_icmp_ge (tgt := 20) hx hb d_Memory_read_8 (by decide) (fun c2 => ?_) (fun c2 => ?_)
    · have hF := hF.trans (if_pos c2)
      refine lv_iconst (v := 0) hx hb d_Memory_read_20 (by decide) ?_
      exact W.iret (v := 0) hx hb hr (fun t ht hW => ⟨⟨_, (), rfl, ⟨hF.symm, trivial⟩, ⟨by rw [ht]; exact hP, va_K.moved hW.alike hK, hD⟩⟩, hS.F ht⟩) hS.2.2 d_Memory_read_21
    · have hF := hF.trans (if_neg c2)
      refine lv_aload_n hx hb d_Memory_read_11 rfl (lv_at hl 0 rfl) ?_
      refine va_get (D := D) (v := .ref ac) (C := "ColonMachine$Memory") (T := T_Memory) (N := 3) hx hb hT i_Memory hown hK hP 0 rfl rfl 0 (by decide) (hT _ fl_Memory_9) (fun _ h9 => h9) rfl d_Memory_read_12 ?_
      refine lv_iload_n hx hb d_Memory_read_15 rfl (lv_at hl 1 rfl) ?_
      refine va_iald hx hb hK hP 1 0 rfl rfl (by have := ti_lo x1; have := ti_hi x1; have := ti_lo he; have := ti_hi he; have t1000 : Int32.toInt 1000 = 1000 := rfl; have t0 : Int32.toInt 0 = 0 := rfl; rw [vp_in_iff]; (try simp only [true_or, or_true, true_and, and_true, z_tn, CellsOk, CallsOk, TextOk, MemOk, OutOk, Int32.lt_iff_toInt_lt, Int32.le_iff_toInt_le, ← Int32.toInt_inj, Int32.toInt_add, Int32.toInt_sub, Int32.toInt_mul, Int32.toInt_neg, zbm, zbm', t1000, t0] at c1 c2 hi ⊢) <;> omega) d_Memory_read_16 ?_
      refine lv_goto (tgt := 21) hx hb d_Memory_read_17 (by decide) ?_
      exact W.iret (v := fc x1.toNatClampNeg) hx hb hr (fun t ht hW => ⟨⟨_, (), rfl, ⟨hF.symm, trivial⟩, ⟨by rw [ht]; exact hP, va_K.moved hW.alike hK, hD⟩⟩, hS.F ht⟩) hS.2.2 d_Memory_read_21
/-- the picture of ColonMachine$Memory.write -/
def F_Memory_write (fc : Nat → Int32) (x1 : Int32) (x2 : Int32) : (Nat → Int32) := if x1 < 0 then fc else (if 1000 ≤ x1 then fc else (upd fc x1.toNatClampNeg x2))
theorem F_Memory_write_e (fc : Nat → Int32) (x1 : Int32) (x2 : Int32) : F_Memory_write fc x1 x2 = if x1 < 0 then fc else (if 1000 ≤ x1 then fc else (upd fc x1.toNatClampNeg x2)) := rfl
set_option maxHeartbeats 4000000 in
set_option maxRecDepth 100000 in
theorem c_Memory_write (l : Launch) (D : va_G) (cI cJ cZ cW cT : ClassId) (sz : Nat) (h : Nat) (ac : Nat) (ab : Nat) (he : Int32) (fc : Nat → Int32) (x1 : Int32) (x2 : Int32) (hi : MemOk he) : Met l y_Memory_write w_Memory_write ({ frames := 0, cells := 0, slots := 0, locals := 0 }) (va_Pc [.ref h, .int x1, .int x2] (zP D classes (TY cI cJ cZ cW cT) [(h, .inr (4, [.ref ac, .ref ab, .int he])), (ac, .inl (cI, 1000, .inl fc))] sz)) (va_Qv (fun u : (Nat → Int32) => u = F_Memory_write fc x1 x2 ∧ (True)) (fun u => zB D classes (TY cI cJ cZ cW cT) (va_A [(h, .inr (4, [.ref ac, .ref ab, .int he])), (ac, .inl (cI, 1000, .inl fc))] sz) [(h, .inr (4, [.ref ac, .ref ab, .int he])), (ac, .inl (cI, 1000, .inl u))]) (va_A [(h, .inr (4, [.ref ac, .ref ab, .int he])), (ac, .inl (cI, 1000, .inl fc))] sz)) 0 0 (va_A [(h, .inr (4, [.ref ac, .ref ab, .int he])), (ac, .inl (cI, 1000, .inl fc))] sz) := by
  refine Met.ofW (cc := b_Memory_write) (maxL := 3) (ret := none) (by decide) rfl ?_
  intro p e s m args below meth c s₁ B hml hv
  obtain ⟨rfl, hsz, hP, hK, hD0, hE⟩ := hv
  have hx := B.exec
  have hb := B.bytes
  have hr := B.returns
  have hts := atoms_spec (ws := w_Memory_write) B.pre
  have hT : ∀ w ∈ TB, w.before _ s = true := fun w h => hts w (List.mem_cons_of_mem _ h)
  have hown : s.vm.findClass "ColonMachine$Memory" = some m.cls := findClass_of_methodNamed B.named
  have hlocks := B.notSynchronized
  subst hsz
  have hD := hD0.self (sz := s.heap.size)
  generalize hAe : va_A [(h, .inr (4, [.ref ac, .ref ab, .int he])), (ac, .inl (cI, 1000, .inl fc))] s.heap.size = A at hD hE ⊢
  have hA : ∀ q : Nat, s.heap.size ≤ q → A q := fun q h => by rw [← hAe]; exact Or.inr h
  have hS : va_S A s.heap s.heap [] := va_S.rf
  have hl := lv_entry [.ref h, .int x1, .int x2] (n := 3) (Nat.le_of_ble_eq_true rfl)
  rw [lg_entry_eq]
  generalize (lg_sl [.ref h, .int x1, .int x2] ++ List.replicate (3 - (lg_sl [.ref h, .int x1, .int x2]).length) Slot.unset).toArray = ls at hl ⊢
  have hl : lv_has ls 3 [(0, .ref h), (1, .int x1), (2, .int x2)] := hl
  have hF := F_Memory_write_e fc x1 x2
  refine lv_iload_n hx hb d_Memory_write_0 rfl (lv_at hl 1 rfl) ?_
  refine lv_if_lt (tgt := 18) hx hb d_Memory_write_1 (by decide) (fun c1 => ?_) (fun c1 => ?_)
  · have hF := hF.trans (if_pos c1)
    exact W.vret hx hb hr (fun t ht hW => ⟨⟨_, rfl, ⟨hF.symm, trivial⟩, ⟨by rw [ht]; exact hP, va_K.moved hW.alike hK, hD⟩⟩, hS.F ht⟩) hS.2.2 d_Memory_write_18
  · have hF := hF.trans (if_neg c1)
    refine lv_iload_n hx hb d_Memory_write_4 rfl (lv_at hl 1 rfl) ?_
    refine lv_sipush (v := 1000) hx hb d_Memory_write_5 (by decide) ?_
    refine lv_icmp_ge (tgt := 18) hx hb d_Memory_write_8 (by decide) (fun c2 => ?_) (fun c2 => ?_)
    · have hF := hF.trans (if_pos c2)
      exact W.vret hx hb hr (fun t ht hW => ⟨⟨_, rfl, ⟨hF.symm, trivial⟩, ⟨by rw [ht]; exact hP, va_K.moved hW.alike hK, hD⟩⟩, hS.F ht⟩) hS.2.2 d_Memory_write_18
    · have hF := hF.trans (if_neg c2)
      refine lv_aload_n hx hb d_Memory_write_11 rfl (lv_at hl 0 rfl) ?_
      refine va_get (D := D) (v := .ref ac) (C := "ColonMachine$Memory") (T := T_Memory) (N := 3) hx hb hT i_Memory hown hK hP 0 rfl rfl 0 (by decide) (hT _ fl_Memory_9) (fun _ h9 => h9) rfl d_Memory_write_12 ?_
      refine lv_iload_n hx hb d_Memory_write_15 rfl (lv_at hl 1 rfl) ?_
      refine lv_iload_n hx hb d_Memory_write_16 rfl (lv_at hl 2 rfl) ?_
      refine va_iast hx hb hK hP hD hS 1 0 rfl rfl (by have := ti_lo x1; have := ti_hi x1; have := ti_lo he; have := ti_hi he; have t1000 : Int32.toInt 1000 = 1000 := rfl; have t0 : Int32.toInt 0 = 0 := rfl; rw [vp_in_iff]; (try simp only [true_or, or_true, true_and, and_true, z_tn, CellsOk, CallsOk, TextOk, MemOk, OutOk, Int32.lt_iff_toInt_lt, Int32.le_iff_toInt_le, ← Int32.toInt_inj, Int32.toInt_add, Int32.toInt_sub, Int32.toInt_mul, Int32.toInt_neg, zbm, zbm', t1000, t0] at c1 c2 hi ⊢) <;> omega) d_Memory_write_17 (fun H locs hP hD hS => ?_)
      have hP : va_P D classes [(h, .inr (4, [.ref ac, .ref ab, .int he])), (ac, .inl (cI, 1000, .inl (upd fc x1.toNatClampNeg x2)))] H := hP
      have hD : va_D A [(h, .inr (4, [.ref ac, .ref ab, .int he])), (ac, .inl (cI, 1000, .inl (upd fc x1.toNatClampNeg x2)))] := hD
      exact W.vret hx hb hr (fun t ht hW => ⟨⟨_, rfl, ⟨hF.symm, trivial⟩, ⟨by rw [ht]; exact hP, va_K.moved hW.alike hK, hD⟩⟩, hS.F ht⟩) hS.2.2 d_Memory_write_18
/-- the picture of ColonMachine$Memory.isFull -/
def F_Memory_isFull (he : Int32) : Int32 := if he < 400 then 0 else 1
theorem F_Memory_isFull_e (he : Int32) : F_Memory_isFull he = if he < 400 then 0 else 1 := rfl
set_option maxHeartbeats 4000000 in
set_option maxRecDepth 100000 in
theorem c_Memory_isFull (l : Launch) (D : va_G) (cI cJ cZ cW cT : ClassId) (sz : Nat) (h : Nat) (ac : Nat) (ab : Nat) (he : Int32) (hi : MemOk he) : Met l y_Memory_isFull w_Memory_isFull ({ frames := 0, cells := 0, slots := 0, locals := 0 }) (va_Pc [.ref h] (zP D classes (TY cI cJ cZ cW cT) [(h, .inr (4, [.ref ac, .ref ab, .int he]))] sz)) (va_Qi (fun (r : Int32) (_ : Unit) => r = F_Memory_isFull he ∧ ((r = 0 ∨ r = 1))) (fun _ => zB D classes (TY cI cJ cZ cW cT) (va_A [(h, .inr (4, [.ref ac, .ref ab, .int he]))] sz) [(h, .inr (4, [.ref ac, .ref ab, .int he]))]) (va_A [(h, .inr (4, [.ref ac, .ref ab, .int he]))] sz)) 0 0 (va_A [(h, .inr (4, [.ref ac, .ref ab, .int he]))] sz) := by
  refine Met.ofW (cc := b_Memory_isFull) (maxL := 1) (ret := (some .boolean)) (by decide) rfl ?_
  intro p e s m args below meth c s₁ B hml hv
  obtain ⟨rfl, hsz, hP, hK, hD0, hE⟩ := hv
  have hx := B.exec
  have hb := B.bytes
  have hr := B.returns
  have hts := atoms_spec (ws := w_Memory_isFull) B.pre
  have hT : ∀ w ∈ TB, w.before _ s = true := fun w h => hts w (List.mem_cons_of_mem _ h)
  have hown : s.vm.findClass "ColonMachine$Memory" = some m.cls := findClass_of_methodNamed B.named
  have hlocks := B.notSynchronized
  subst hsz
  have hD := hD0.self (sz := s.heap.size)
  generalize hAe : va_A [(h, .inr (4, [.ref ac, .ref ab, .int he]))] s.heap.size = A at hD hE ⊢
  have hA : ∀ q : Nat, s.heap.size ≤ q → A q := fun q h => by rw [← hAe]; exact Or.inr h
  have hS : va_S A s.heap s.heap [] := va_S.rf
  have hl := lv_entry [.ref h] (n := 1) (Nat.le_of_ble_eq_true rfl)
  rw [lg_entry_eq]
  generalize (lg_sl [.ref h] ++ List.replicate (1 - (lg_sl [.ref h]).length) Slot.unset).toArray = ls at hl ⊢
  have hl : lv_has ls 1 [(0, .ref h)] := hl
  have hF := F_Memory_isFull_e he
  refine lv_aload_n hx hb d_Memory_isFull_0 rfl (lv_at hl 0 rfl) ?_
  refine va_get (D := D) (v := .int he) (C := "ColonMachine$Memory") (T := T_Memory) (N := 3) hx hb hT i_Memory hown hK hP 0 rfl rfl 2 (by decide) (hT _ fl_Memory_16) (fun _ h9 => h9) rfl d_Memory_isFull_1 ?_
  refine lv_sipush (v := 400) hx hb d_Memory_isFull_4 (by decide) ?_
  refine lv_icmp_lt (tgt := 14) hx hb d_Memory_isFull_7 (by decide) (fun c1 => ?_) (fun c1 => ?_)
  · have hF := hF.trans (if_pos c1)
    refine lv_iconst (v := 0) hx hb d_Memory_isFull_14 (by decide) ?_
    exact W.zret (v := 0) hx hb hr rfl (fun t ht hW => ⟨⟨_, (), rfl, ⟨hF.symm, (Or.inl rfl)⟩, ⟨by rw [ht]; exact hP, va_K.moved hW.alike hK, hD⟩⟩, hS.F ht⟩) hS.2.2 d_Memory_isFull_15
  · have hF := hF.trans (if_neg c1)
    refine lv_iconst (v := 1) hx hb d_Memory_isFull_10 (by decide) ?_
    refine lv_goto (tgt := 15) hx hb d_Memory_isFull_11 (by decide) ?_
    exact W.zret (v := 1) hx hb hr rfl (fun t ht hW => ⟨⟨_, (), rfl, ⟨hF.symm, (Or.inr rfl)⟩, ⟨by rw [ht]; exact hP, va_K.moved hW.alike hK, hD⟩⟩, hS.F ht⟩) hS.2.2 d_Memory_isFull_15
/-- the picture of ColonMachine$Memory.comma -/
def F_Memory_comma (he : Int32) (fc : Nat → Int32) (x1 : Int32) : Int32 × (Nat → Int32) := if 400 ≤ he then (he, fc) else (he + 1, upd fc he.toNatClampNeg x1)
theorem F_Memory_comma_e (he : Int32) (fc : Nat → Int32) (x1 : Int32) : F_Memory_comma he fc x1 = if 400 ≤ he then (he, fc) else (he + 1, upd fc he.toNatClampNeg x1) := rfl
set_option maxHeartbeats 4000000 in
set_option maxRecDepth 100000 in
theorem c_Memory_comma (l : Launch) (D : va_G) (cI cJ cZ cW cT : ClassId) (sz : Nat) (h : Nat) (ac : Nat) (ab : Nat) (he : Int32) (fc : Nat → Int32) (x1 : Int32) (hi : MemOk he) : Met l y_Memory_comma w_Memory_comma ({ frames := 0, cells := 0, slots := 0, locals := 0 }) (va_Pc [.ref h, .int x1] (zP D classes (TY cI cJ cZ cW cT) [(h, .inr (4, [.ref ac, .ref ab, .int he])), (ac, .inl (cI, 1000, .inl fc))] sz)) (va_Qv (fun u : Int32 × (Nat → Int32) => u = F_Memory_comma he fc x1 ∧ ((MemOk u.1))) (fun u => zB D classes (TY cI cJ cZ cW cT) (va_A [(h, .inr (4, [.ref ac, .ref ab, .int he])), (ac, .inl (cI, 1000, .inl fc))] sz) [(h, .inr (4, [.ref ac, .ref ab, .int u.1])), (ac, .inl (cI, 1000, .inl u.2))]) (va_A [(h, .inr (4, [.ref ac, .ref ab, .int he])), (ac, .inl (cI, 1000, .inl fc))] sz)) 0 0 (va_A [(h, .inr (4, [.ref ac, .ref ab, .int he])), (ac, .inl (cI, 1000, .inl fc))] sz) := by
  refine Met.ofW (cc := b_Memory_comma) (maxL := 2) (ret := none) (by decide) rfl ?_
  intro p e s m args below meth c s₁ B hml hv
  obtain ⟨rfl, hsz, hP, hK, hD0, hE⟩ := hv
  have hx := B.exec
  have hb := B.bytes
  have hr := B.returns
  have hts := atoms_spec (ws := w_Memory_comma) B.pre
  have hT : ∀ w ∈ TB, w.before _ s = true := fun w h => hts w (List.mem_cons_of_mem _ h)
  have hown : s.vm.findClass "ColonMachine$Memory" = some m.cls := findClass_of_methodNamed B.named
  have hlocks := B.notSynchronized
  subst hsz
  have hD := hD0.self (sz := s.heap.size)
  generalize hAe : va_A [(h, .inr (4, [.ref ac, .ref ab, .int he])), (ac, .inl (cI, 1000, .inl fc))] s.heap.size = A at hD hE ⊢
  have hA : ∀ q : Nat, s.heap.size ≤ q → A q := fun q h => by rw [← hAe]; exact Or.inr h
  have hS : va_S A s.heap s.heap [] := va_S.rf
  have hl := lv_entry [.ref h, .int x1] (n := 2) (Nat.le_of_ble_eq_true rfl)
  rw [lg_entry_eq]
  generalize (lg_sl [.ref h, .int x1] ++ List.replicate (2 - (lg_sl [.ref h, .int x1]).length) Slot.unset).toArray = ls at hl ⊢
  have hl : lv_has ls 2 [(0, .ref h), (1, .int x1)] := hl
  have hF := F_Memory_comma_e he fc x1
  refine lv_aload_n hx hb d_Memory_comma_0 rfl (lv_at hl 0 rfl) ?_
  refine va_get (D := D) (v := .int he) (C := "ColonMachine$Memory") (T := T_Memory) (N := 3) hx hb hT i_Memory hown hK hP 0 rfl rfl 2 (by decide) (hT _ fl_Memory_16) (fun _ h9 => h9) rfl d_Memory_comma_1 ?_
  refine lv_sipush (v := 400) hx hb d_Memory_comma_4 (by decide) ?_
  refine lv_icmp_ge (tgt := 30) hx hb d_Memory_comma_7 (by decide) (fun c1 => ?_) (fun c1 => ?_)
  · have hF := hF.trans (if_pos c1)
    exact W.vret hx hb hr (fun t ht hW => ⟨⟨_, rfl, ⟨hF.symm, hi⟩, ⟨by rw [ht]; exact hP, va_K.moved hW.alike hK, hD⟩⟩, hS.F ht⟩) hS.2.2 d_Memory_comma_30
  · have hF := hF.trans (if_neg c1)
    refine lv_aload_n hx hb d_Memory_comma_10 rfl (lv_at hl 0 rfl) ?_
    refine va_get (D := D) (v := .ref ac) (C := "ColonMachine$Memory") (T := T_Memory) (N := 3) hx hb hT i_Memory hown hK hP 0 rfl rfl 0 (by decide) (hT _ fl_Memory_9) (fun _ h9 => h9) rfl d_Memory_comma_11 ?_
    refine lv_aload_n hx hb d_Memory_comma_14 rfl (lv_at hl 0 rfl) ?_
    refine va_get (D := D) (v := .int he) (C := "ColonMachine$Memory") (T := T_Memory) (N := 3) hx hb hT i_Memory hown hK hP 0 rfl rfl 2 (by decide) (hT _ fl_Memory_16) (fun _ h9 => h9) rfl d_Memory_comma_15 ?_
    refine lv_iload_n hx hb d_Memory_comma_18 rfl (lv_at hl 1 rfl) ?_
    refine va_iast hx hb hK hP hD hS 1 0 rfl rfl (by have := ti_lo he; have := ti_hi he; have t1000 : Int32.toInt 1000 = 1000 := rfl; have t400 : Int32.toInt 400 = 400 := rfl; rw [vp_in_iff]; (try simp only [true_or, or_true, true_and, and_true, z_tn, CellsOk, CallsOk, TextOk, MemOk, OutOk, Int32.lt_iff_toInt_lt, Int32.le_iff_toInt_le, ← Int32.toInt_inj, Int32.toInt_add, Int32.toInt_sub, Int32.toInt_mul, Int32.toInt_neg, zbm, zbm', t1000, t400] at c1 hi ⊢) <;> omega) d_Memory_comma_19 (fun H locs hP hD hS => ?_)
    have hP : va_P D classes [(h, .inr (4, [.ref ac, .ref ab, .int he])), (ac, .inl (cI, 1000, .inl (upd fc he.toNatClampNeg x1)))] H := hP
    have hD : va_D A [(h, .inr (4, [.ref ac, .ref ab, .int he])), (ac, .inl (cI, 1000, .inl (upd fc he.toNatClampNeg x1)))] := hD
    refine lv_aload_n hx hb d_Memory_comma_20 rfl (lv_at hl 0 rfl) ?_
    refine lv_dup hx hb d_Memory_comma_21 rfl ?_
    refine va_get (D := D) (v := .int he) (C := "ColonMachine$Memory") (T := T_Memory) (N := 3) hx hb hT i_Memory hown hK hP 0 rfl rfl 2 (by decide) (hT _ fl_Memory_16) (fun _ h9 => h9) rfl d_Memory_comma_22 ?_
    refine lv_iconst (v := 1) hx hb d_Memory_comma_25 (by decide) ?_
    refine lv_iadd hx hb d_Memory_comma_26 ?_
    refine va_put (D := D) (v := .int (he + 1)) (ty := .int) (C := "ColonMachine$Memory") (T := T_Memory) (N := 3) hx hb hT i_Memory t_Memory tk_Memory n_Memory hown hK hP hD hS 0 rfl rfl 2 (by decide) (hT _ fl_Memory_16) (fun _ h9 => h9) rfl (by decide +kernel) rfl rfl (Nat.le_of_ble_eq_true rfl) d_Memory_comma_27 (fun H locs hP hD hS => ?_)
    have hP : va_P D classes [(h, .inr (4, [.ref ac, .ref ab, .int (he + 1)])), (ac, .inl (cI, 1000, .inl (upd fc he.toNatClampNeg x1)))] H := hP
    have hD : va_D A [(h, .inr (4, [.ref ac, .ref ab, .int (he + 1)])), (ac, .inl (cI, 1000, .inl (upd fc he.toNatClampNeg x1)))] := hD
    exact W.vret hx hb hr (fun t ht hW => ⟨⟨_, rfl, ⟨hF.symm, (by have := ti_lo he; have := ti_hi he; have t1 : Int32.toInt 1 = 1 := rfl; have t400 : Int32.toInt 400 = 400 := rfl; (try simp only [true_or, or_true, true_and, and_true, z_tn, CellsOk, CallsOk, TextOk, MemOk, OutOk, Int32.lt_iff_toInt_lt, Int32.le_iff_toInt_le, ← Int32.toInt_inj, Int32.toInt_add, Int32.toInt_sub, Int32.toInt_mul, Int32.toInt_neg, zbm, zbm', t1, t400] at c1 hi ⊢) <;> omega)⟩, ⟨by rw [ht]; exact hP, va_K.moved hW.alike hK, hD⟩⟩, hS.F ht⟩) hS.2.2 d_Memory_comma_30
/-- the picture of ColonMachine$Memory.canAllot -/
def F_Memory_canAllot (he : Int32) (x1 : Int32) : Int32 := if x1 < (1 - he) then 0 else (if (400 - he) < x1 then 0 else 1)
theorem F_Memory_canAllot_e (he : Int32) (x1 : Int32) : F_Memory_canAllot he x1 = if x1 < (1 - he) then 0 else (if (400 - he) < x1 then 0 else 1) := rfl
set_option maxHeartbeats 4000000 in
set_option maxRecDepth 100000 in
theorem c_Memory_canAllot (l : Launch) (D : va_G) (cI cJ cZ cW cT : ClassId) (sz : Nat) (h : Nat) (ac : Nat) (ab : Nat) (he : Int32) (x1 : Int32) (hi : MemOk he) : Met l y_Memory_canAllot w_Memory_canAllot ({ frames := 0, cells := 0, slots := 0, locals := 0 }) (va_Pc [.ref h, .int x1] (zP D classes (TY cI cJ cZ cW cT) [(h, .inr (4, [.ref ac, .ref ab, .int he]))] sz)) (va_Qi (fun (r : Int32) (_ : Unit) => r = F_Memory_canAllot he x1 ∧ ((r = 0 ∨ r = 1))) (fun _ => zB D classes (TY cI cJ cZ cW cT) (va_A [(h, .inr (4, [.ref ac, .ref ab, .int he]))] sz) [(h, .inr (4, [.ref ac, .ref ab, .int he]))]) (va_A [(h, .inr (4, [.ref ac, .ref ab, .int he]))] sz)) 0 0 (va_A [(h, .inr (4, [.ref ac, .ref ab, .int he]))] sz) := by
  refine Met.ofW (cc := b_Memory_canAllot) (maxL := 2) (ret := (some .boolean)) (by decide) rfl ?_
  intro p e s m args below meth c s₁ B hml hv
  obtain ⟨rfl, hsz, hP, hK, hD0, hE⟩ := hv
  have hx := B.exec
  have hb := B.bytes
  have hr := B.returns
  have hts := atoms_spec (ws := w_Memory_canAllot) B.pre
  have hT : ∀ w ∈ TB, w.before _ s = true := fun w h => hts w (List.mem_cons_of_mem _ h)
  have hown : s.vm.findClass "ColonMachine$Memory" = some m.cls := findClass_of_methodNamed B.named
  have hlocks := B.notSynchronized
  subst hsz
  have hD := hD0.self (sz := s.heap.size)
  generalize hAe : va_A [(h, .inr (4, [.ref ac, .ref ab, .int he]))] s.heap.size = A at hD hE ⊢
  have hA : ∀ q : Nat, s.heap.size ≤ q → A q := fun q h => by rw [← hAe]; exact Or.inr h
  have hS : va_S A s.heap s.heap [] := va_S.rf
  have hl := lv_entry [.ref h, .int x1] (n := 2) (Nat.le_of_ble_eq_true rfl)
  rw [lg_entry_eq]
  generalize (lg_sl [.ref h, .int x1] ++ List.replicate (2 - (lg_sl [.ref h, .int x1]).length) Slot.unset).toArray = ls at hl ⊢
  have hl : lv_has ls 2 [(0, .ref h), (1, .int x1)] := hl
  have hF := F_Memory_canAllot_e he x1
  refine lv_iload_n hx hb d_Memory_canAllot_0 rfl (lv_at hl 1 rfl) ?_
  refine lv_iconst (v := 1) hx hb d_Memory_canAllot_1 (by decide) ?_
  refine lv_aload_n hx hb d_Memory_canAllot_2 rfl (lv_at hl 0 rfl) ?_
  refine va_get (D := D) (v := .int he) (C := "ColonMachine$Memory") (T := T_Memory) (N := 3) hx hb hT i_Memory hown hK hP 0 rfl rfl 2 (by decide) (hT _ fl_Memory_16) (fun _ h9 => h9) rfl d_Memory_canAllot_3 ?_
  refine lv_isub hx hb d_Memory_canAllot_6 ?_
  refine lv_icmp_lt (tgt := 26) hx hb d_Memory_canAllot_7 (by decide) (fun c1 => ?_) (fun c1 => ?_)
  · have hF := hF.trans (if_pos c1)
    refine lv_iconst (v := 0) hx hb d_Memory_canAllot_26 (by decide) ?_
    exact W.zret (v := 0) hx hb hr rfl (fun t ht hW => ⟨⟨_, (), rfl, ⟨hF.symm, (Or.inl rfl)⟩, ⟨by rw [ht]; exact hP, va_K.moved hW.alike hK, hD⟩⟩, hS.F ht⟩) hS.2.2 d_Memory_canAllot_27
  · have hF := hF.trans (if_neg c1)
    refine lv_iload_n hx hb d_Memory_canAllot_10 rfl (lv_at hl 1 rfl) ?_
    refine lv_sipush (v := 400) hx hb d_Memory_canAllot_11 (by decide) ?_
    refine lv_aload_n hx hb d_Memory_canAllot_14 rfl (lv_at hl 0 rfl) ?_
    refine va_get (D := D) (v := .int he) (C := "ColonMachine$Memory") (T := T_Memory) (N := 3) hx hb hT i_Memory hown hK hP 0 rfl rfl 2 (by decide) (hT _ fl_Memory_16) (fun _ h9 => h9) rfl d_Memory_canAllot_15 ?_
    refine lv_isub hx hb d_Memory_canAllot_18 ?_
    refine lv_icmp_gt (tgt := 26) hx hb d_Memory_canAllot_19 (by decide) (fun c2 => ?_) (fun c2 => ?_)
    · have hF := hF.trans (if_pos c2)
      refine lv_iconst (v := 0) hx hb d_Memory_canAllot_26 (by decide) ?_
      exact W.zret (v := 0) hx hb hr rfl (fun t ht hW => ⟨⟨_, (), rfl, ⟨hF.symm, (Or.inl rfl)⟩, ⟨by rw [ht]; exact hP, va_K.moved hW.alike hK, hD⟩⟩, hS.F ht⟩) hS.2.2 d_Memory_canAllot_27
    · have hF := hF.trans (if_neg c2)
      refine lv_iconst (v := 1) hx hb d_Memory_canAllot_22 (by decide) ?_
      refine lv_goto (tgt := 27) hx hb d_Memory_canAllot_23 (by decide) ?_
      exact W.zret (v := 1) hx hb hr rfl (fun t ht hW => ⟨⟨_, (), rfl, ⟨hF.symm, (Or.inr rfl)⟩, ⟨by rw [ht]; exact hP, va_K.moved hW.alike hK, hD⟩⟩, hS.F ht⟩) hS.2.2 d_Memory_canAllot_27
/-- the picture of ColonMachine$Memory.setHere -/
def F_Memory_setHere (he : Int32) (x1 : Int32) : Int32 := if x1 < 1 then he else (if 400 < x1 then he else x1)
theorem F_Memory_setHere_e (he : Int32) (x1 : Int32) : F_Memory_setHere he x1 = if x1 < 1 then he else (if 400 < x1 then he else x1) := rfl
set_option maxHeartbeats 4000000 in
set_option maxRecDepth 100000 in
theorem c_Memory_setHere (l : Launch) (D : va_G) (cI cJ cZ cW cT : ClassId) (sz : Nat) (h : Nat) (ac : Nat) (ab : Nat) (he : Int32) (x1 : Int32) (hi : MemOk he) : Met l y_Memory_setHere w_Memory_setHere ({ frames := 0, cells := 0, slots := 0, locals := 0 }) (va_Pc [.ref h, .int x1] (zP D classes (TY cI cJ cZ cW cT) [(h, .inr (4, [.ref ac, .ref ab, .int he]))] sz)) (va_Qv (fun u : Int32 => u = F_Memory_setHere he x1 ∧ ((MemOk u))) (fun u => zB D classes (TY cI cJ cZ cW cT) (va_A [(h, .inr (4, [.ref ac, .ref ab, .int he]))] sz) [(h, .inr (4, [.ref ac, .ref ab, .int u]))]) (va_A [(h, .inr (4, [.ref ac, .ref ab, .int he]))] sz)) 0 0 (va_A [(h, .inr (4, [.ref ac, .ref ab, .int he]))] sz) := by
  refine Met.ofW (cc := b_Memory_setHere) (maxL := 2) (ret := none) (by decide) rfl ?_
  intro p e s m args below meth c s₁ B hml hv
  obtain ⟨rfl, hsz, hP, hK, hD0, hE⟩ := hv
  have hx := B.exec
  have hb := B.bytes
  have hr := B.returns
  have hts := atoms_spec (ws := w_Memory_setHere) B.pre
  have hT : ∀ w ∈ TB, w.before _ s = true := fun w h => hts w (List.mem_cons_of_mem _ h)
  have hown : s.vm.findClass "ColonMachine$Memory" = some m.cls := findClass_of_methodNamed B.named
  have hlocks := B.notSynchronized
  subst hsz
  have hD := hD0.self (sz := s.heap.size)
  generalize hAe : va_A [(h, .inr (4, [.ref ac, .ref ab, .int he]))] s.heap.size = A at hD hE ⊢
  have hA : ∀ q : Nat, s.heap.size ≤ q → A q := fun q h => by rw [← hAe]; exact Or.inr h
  have hS : va_S A s.heap s.heap [] := va_S.rf
  have hl := lv_entry [.ref h, .int x1] (n := 2) (Nat.le_of_ble_eq_true rfl)
  rw [lg_entry_eq]
  generalize (lg_sl [.ref h, .int x1] ++ List.replicate (2 - (lg_sl [.ref h, .int x1]).length) Slot.unset).toArray = ls at hl ⊢
  have hl : lv_has ls 2 [(0, .ref h), (1, .int x1)] := hl
  have hF := F_Memory_setHere_e he x1
  refine lv_iload_n hx hb d_Memory_setHere_0 rfl (lv_at hl 1 rfl) ?_
  refine lv_iconst (v := 1) hx hb d_Memory_setHere_1 (by decide) ?_
  refine lv_icmp_lt (tgt := 17) hx hb d_Memory_setHere_2 (by decide) (fun c1 => ?_) (fun c1 => ?_)
  · have hF := hF.trans (if_pos c1)
    exact W.vret hx hb hr (fun t ht hW => ⟨⟨_, rfl, ⟨hF.symm, hi⟩, ⟨by rw [ht]; exact hP, va_K.moved hW.alike hK, hD⟩⟩, hS.F ht⟩) hS.2.2 d_Memory_setHere_17
  · have hF := hF.trans (if_neg c1)
    refine lv_iload_n hx hb d_Memory_setHere_5 rfl (lv_at hl 1 rfl) ?_
    refine lv_sipush (v := 400) hx hb d_Memory_setHere_6 (by decide) ?_
    refine lv_icmp_gt (tgt := 17) hx hb d_Memory_setHere_9 (by decide) (fun c2 => ?_) (fun c2 => ?_)
    · have hF := hF.trans (if_pos c2)
      exact W.vret hx hb hr (fun t ht hW => ⟨⟨_, rfl, ⟨hF.symm, hi⟩, ⟨by rw [ht]; exact hP, va_K.moved hW.alike hK, hD⟩⟩, hS.F ht⟩) hS.2.2 d_Memory_setHere_17
    · have hF := hF.trans (if_neg c2)
      refine lv_aload_n hx hb d_Memory_setHere_12 rfl (lv_at hl 0 rfl) ?_
      refine lv_iload_n hx hb d_Memory_setHere_13 rfl (lv_at hl 1 rfl) ?_
      refine va_put (D := D) (v := .int x1) (ty := .int) (C := "ColonMachine$Memory") (T := T_Memory) (N := 3) hx hb hT i_Memory t_Memory tk_Memory n_Memory hown hK hP hD hS 0 rfl rfl 2 (by decide) (hT _ fl_Memory_16) (fun _ h9 => h9) rfl (by decide +kernel) rfl rfl (Nat.le_of_ble_eq_true rfl) d_Memory_setHere_14 (fun H locs hP hD hS => ?_)
      have hP : va_P D classes [(h, .inr (4, [.ref ac, .ref ab, .int x1]))] H := hP
      have hD : va_D A [(h, .inr (4, [.ref ac, .ref ab, .int x1]))] := hD
      exact W.vret hx hb hr (fun t ht hW => ⟨⟨_, rfl, ⟨hF.symm, (by have := ti_lo x1; have := ti_hi x1; have := ti_lo he; have := ti_hi he; have t1 : Int32.toInt 1 = 1 := rfl; have t400 : Int32.toInt 400 = 400 := rfl; (try simp only [true_or, or_true, true_and, and_true, z_tn, CellsOk, CallsOk, TextOk, MemOk, OutOk, Int32.lt_iff_toInt_lt, Int32.le_iff_toInt_le, ← Int32.toInt_inj, Int32.toInt_add, Int32.toInt_sub, Int32.toInt_mul, Int32.toInt_neg, zbm, zbm', t1, t400] at c1 c2 hi ⊢) <;> omega)⟩, ⟨by rw [ht]; exact hP, va_K.moved hW.alike hK, hD⟩⟩, hS.F ht⟩) hS.2.2 d_Memory_setHere_17
def F_Memory_blocks_L4 (fb : Nat → Int32) : Nat → (Int32) → (Int32) → Int32
  | 0, _, _ => 0
  | k4 + 1, v2, v1 => if 600 ≤ v2 then v1 else (if (fb v2.toNatClampNeg) = (400 + v2) then (F_Memory_blocks_L4 fb k4 (v2 + 1) (v1 + 1)) else (F_Memory_blocks_L4 fb k4 (v2 + 1) v1))
theorem F_Memory_blocks_L4_s (fb : Nat → Int32) (k4 : Nat) (v2 : Int32) (v1 : Int32) : F_Memory_blocks_L4 fb (k4 + 1) v2 v1 = if 600 ≤ v2 then v1 else (if (fb v2.toNatClampNeg) = (400 + v2) then (F_Memory_blocks_L4 fb k4 (v2 + 1) (v1 + 1)) else (F_Memory_blocks_L4 fb k4 (v2 + 1) v1)) := rfl
/-- the picture of ColonMachine$Memory.blocks -/
def F_Memory_blocks (fb : Nat → Int32) : Int32 := F_Memory_blocks_L4 fb (((600 - (0 : Int32).toInt).toNat) + 1) 0 0
theorem F_Memory_blocks_e (fb : Nat → Int32) : F_Memory_blocks fb = F_Memory_blocks_L4 fb (((600 - (0 : Int32).toInt).toNat) + 1) 0 0 := rfl
set_option maxHeartbeats 4000000 in
set_option maxRecDepth 100000 in
theorem c_Memory_blocks (l : Launch) (D : va_G) (cI cJ cZ cW cT : ClassId) (sz : Nat) (h : Nat) (ac : Nat) (ab : Nat) (he : Int32) (fb : Nat → Int32) (hi : MemOk he) : Met l y_Memory_blocks w_Memory_blocks ({ frames := 0, cells := 0, slots := 0, locals := 0 }) (va_Pc [.ref h] (zP D classes (TY cI cJ cZ cW cT) [(h, .inr (4, [.ref ac, .ref ab, .int he])), (ab, .inl (cI, 600, .inl fb))] sz)) (va_Qi (fun (r : Int32) (_ : Unit) => r = F_Memory_blocks fb ∧ (True)) (fun _ => zB D classes (TY cI cJ cZ cW cT) (va_A [(h, .inr (4, [.ref ac, .ref ab, .int he])), (ab, .inl (cI, 600, .inl fb))] sz) [(h, .inr (4, [.ref ac, .ref ab, .int he])), (ab, .inl (cI, 600, .inl fb))]) (va_A [(h, .inr (4, [.ref ac, .ref ab, .int he])), (ab, .inl (cI, 600, .inl fb))] sz)) 0 0 (va_A [(h, .inr (4, [.ref ac, .ref ab, .int he])), (ab, .inl (cI, 600, .inl fb))] sz) := by
  refine Met.ofW (cc := b_Memory_blocks) (maxL := 3) (ret := (some .int)) (by decide) rfl ?_
  intro p e s m args below meth c s₁ B hml hv
  obtain ⟨rfl, hsz, hP, hK, hD0, hE⟩ := hv
  have hx := B.exec
  have hb := B.bytes
  have hr := B.returns
  have hts := atoms_spec (ws := w_Memory_blocks) B.pre
  have hT : ∀ w ∈ TB, w.before _ s = true := fun w h => hts w (List.mem_cons_of_mem _ h)
  have hown : s.vm.findClass "ColonMachine$Memory" = some m.cls := findClass_of_methodNamed B.named
  have hlocks := B.notSynchronized
  subst hsz
  have hD := hD0.self (sz := s.heap.size)
  generalize hAe : va_A [(h, .inr (4, [.ref ac, .ref ab, .int he])), (ab, .inl (cI, 600, .inl fb))] s.heap.size = A at hD hE ⊢
  have hA : ∀ q : Nat, s.heap.size ≤ q → A q := fun q h => by rw [← hAe]; exact Or.inr h
  have hS : va_S A s.heap s.heap [] := va_S.rf
  have hl := lv_entry [.ref h] (n := 3) (Nat.le_of_ble_eq_true rfl)
  rw [lg_entry_eq]
  generalize (lg_sl [.ref h] ++ List.replicate (3 - (lg_sl [.ref h]).length) Slot.unset).toArray = ls at hl ⊢
  have hl : lv_has ls 3 [(0, .ref h)] := hl
  have hF := F_Memory_blocks_e fb
  refine lv_iconst (v := 0) hx hb d_Memory_blocks_0 (by decide) ?_
  refine lv_istore_n (lv' := [(1, .int 0), (0, .ref h)]) hx hb d_Memory_blocks_1 rfl hl (by decide) rfl (fun ls hl => ?_)
  refine lv_iconst (v := 0) hx hb d_Memory_blocks_2 (by decide) ?_
  refine lv_istore_n (lv' := [(2, .int 0), (1, .int 0), (0, .ref h)]) hx hb d_Memory_blocks_3 rfl hl (by decide) rfl (fun ls hl => ?_)
  have loop : ∀ (k4 : Nat) (v2 : Int32) (v1 : Int32) (hk : (600 - v2.toInt).toNat < k4) (hw : 0 ≤ v2.toInt) (H : Heap) (locs : List Loc) (ls : Array Slot) (hP : va_P D classes [(h, .inr (4, [.ref ac, .ref ab, .int he])), (ab, .inl (cI, 600, .inl fb))] H) (hD : va_D A [(h, .inr (4, [.ref ac, .ref ab, .int he])), (ab, .inl (cI, 600, .inl fb))]) (hS : va_S A s.heap H locs) (hl : lv_has ls 3 [(2, .int v2), (1, .int v1), (0, .ref h)]) (hF : F_Memory_blocks fb = F_Memory_blocks_L4 fb k4 v2 v1), W p l e (headSpec w_Memory_blocks ({ frames := 0, cells := 0, slots := 0, locals := 0 })).room s m (List.toArray [.ref h]) below meth c H locs 0 0 (MQ below (va_Qi (fun (r : Int32) (_ : Unit) => r = F_Memory_blocks fb ∧ (True)) (fun _ => zB D classes (TY cI cJ cZ cW cT) A [(h, .inr (4, [.ref ac, .ref ab, .int he])), (ab, .inl (cI, 600, .inl fb))]) A) (List.toArray [.ref h]) s 0 0 A) (F0 m 4 ls []) := by
    intro k4
    induction k4 with
    | zero => intro v2 v1 hk; exact absurd hk (Nat.not_lt_zero _)
    | succ k4 ih =>
      intro v2 v1 hk hw H locs ls hP hD hS hl hF
      have hF := hF.trans (F_Memory_blocks_L4_s fb k4 v2 v1)
      refine lv_iload_n hx hb d_Memory_blocks_4 rfl (lv_at hl 0 rfl) ?_
      refine lv_aload_n hx hb d_Memory_blocks_5 rfl (lv_at hl 2 rfl) ?_
      refine va_get (D := D) (v := .ref ab) (C := "ColonMachine$Memory") (T := T_Memory) (N := 3) hx hb hT i_Memory hown hK hP 0 rfl rfl 1 (by decide) (hT _ fl_Memory_13) (fun _ h9 => h9) rfl d_Memory_blocks_6 ?_
      refine va_alen (v := 600) hx hb hK hP 1 0 rfl rfl rfl d_Memory_blocks_9 ?_
      refine lv_icmp_ge (tgt := 36) hx hb d_Memory_blocks_10 (by decide) (fun c1 => ?_) (fun c1 => ?_)
      · have hF := hF.trans (if_pos c1)
        refine lv_iload_n hx hb d_Memory_blocks_36 rfl (lv_at hl 1 rfl) ?_
        exact W.iret (v := v1) hx hb hr (fun t ht hW => ⟨⟨_, (), rfl, ⟨hF.symm, trivial⟩, ⟨by rw [ht]; exact hP, va_K.moved hW.alike hK, hD⟩⟩, hS.F ht⟩) hS.2.2 d_Memory_blocks_37
      · have hF := hF.trans (if_neg c1)
        refine lv_aload_n hx hb d_Memory_blocks_13 rfl (lv_at hl 2 rfl) ?_
        refine va_get (D := D) (v := .ref ab) (C := "ColonMachine$Memory") (T := T_Memory) (N := 3) hx hb hT i_Memory hown hK hP 0 rfl rfl 1 (by decide) (hT _ fl_Memory_13) (fun _ h9 => h9) rfl d_Memory_blocks_14 ?_
        refine lv_iload_n hx hb d_Memory_blocks_17 rfl (lv_at hl 0 rfl) ?_
        refine va_iald hx hb hK hP 1 0 rfl rfl (by have := ti_lo v2; have := ti_hi v2; have := ti_lo he; have := ti_hi he; have t600 : Int32.toInt 600 = 600 := rfl; have t0 : Int32.toInt 0 = 0 := rfl; rw [vp_in_iff]; (try simp only [true_or, or_true, true_and, and_true, z_tn, CellsOk, CallsOk, TextOk, MemOk, OutOk, Int32.lt_iff_toInt_lt, Int32.le_iff_toInt_le, ← Int32.toInt_inj, Int32.toInt_add, Int32.toInt_sub, Int32.toInt_mul, Int32.toInt_neg, zbm, zbm', t600, t0] at c1 hi hw ⊢) <;> omega) d_Memory_blocks_18 ?_
        refine lv_sipush (v := 400) hx hb d_Memory_blocks_19 (by decide) ?_
        refine lv_iload_n hx hb d_Memory_blocks_22 rfl (lv_at hl 0 rfl) ?_
        refine lv_iadd hx hb d_Memory_blocks_23 ?_
        refine lv_icmp_ne (tgt := 30) hx hb d_Memory_blocks_24 (by decide) (fun c2 => ?_) (fun c2 => ?_)
        · have hF := hF.trans (if_neg c2)
          refine lv_iinc (v := v2 + 1) (lv' := [(2, .int (v2 + 1)), (1, .int v1), (0, .ref h)]) hx hb d_Memory_blocks_30 hl (k := 0) rfl rfl (by decide) rfl (fun ls hl => ?_)
          refine lv_goto (tgt := 4) hx hb d_Memory_blocks_33 (by decide) ?_
          exact ih (v2 + 1) v1 (by have := ti_lo v2; have := ti_hi v2; have := ti_lo he; have := ti_hi he; have t600 : Int32.toInt 600 = 600 := rfl; have t1 : Int32.toInt 1 = 1 := rfl; have t0 : Int32.toInt 0 = 0 := rfl; have t400 : Int32.toInt 400 = 400 := rfl; (try simp only [true_or, or_true, true_and, and_true, z_tn, CellsOk, CallsOk, TextOk, MemOk, OutOk, Int32.lt_iff_toInt_lt, Int32.le_iff_toInt_le, ← Int32.toInt_inj, Int32.toInt_add, Int32.toInt_sub, Int32.toInt_mul, Int32.toInt_neg, zbm, zbm', t600, t1, t0, t400] at c1 c2 hi hw hk ⊢) <;> omega) (by have := ti_lo v2; have := ti_hi v2; have := ti_lo he; have := ti_hi he; have t0 : Int32.toInt 0 = 0 := rfl; have t1 : Int32.toInt 1 = 1 := rfl; have t600 : Int32.toInt 600 = 600 := rfl; have t400 : Int32.toInt 400 = 400 := rfl; (try simp only [true_or, or_true, true_and, and_true, z_tn, CellsOk, CallsOk, TextOk, MemOk, OutOk, Int32.lt_iff_toInt_lt, Int32.le_iff_toInt_le, ← Int32.toInt_inj, Int32.toInt_add, Int32.toInt_sub, Int32.toInt_mul, Int32.toInt_neg, zbm, zbm', t0, t1, t600, t400] at c1 c2 hi hw ⊢) <;> omega) _ _ _ hP hD hS (lv_sub hl [0, 1, 2] rfl) hF
        · have hF := hF.trans (if_pos c2)
          refine lv_iinc (v := v1 + 1) (lv' := [(1, .int (v1 + 1)), (2, .int v2), (0, .ref h)]) hx hb d_Memory_blocks_27 hl (k := 1) rfl rfl (by decide) rfl (fun ls hl => ?_)
          refine lv_iinc (v := v2 + 1) (lv' := [(2, .int (v2 + 1)), (1, .int (v1 + 1)), (0, .ref h)]) hx hb d_Memory_blocks_30 hl (k := 1) rfl rfl (by decide) rfl (fun ls hl => ?_)
          refine lv_goto (tgt := 4) hx hb d_Memory_blocks_33 (by decide) ?_
          exact ih (v2 + 1) (v1 + 1) (by have := ti_lo v2; have := ti_hi v2; have := ti_lo he; have := ti_hi he; have t600 : Int32.toInt 600 = 600 := rfl; have t1 : Int32.toInt 1 = 1 := rfl; have t0 : Int32.toInt 0 = 0 := rfl; have t400 : Int32.toInt 400 = 400 := rfl; (try simp only [true_or, or_true, true_and, and_true, z_tn, CellsOk, CallsOk, TextOk, MemOk, OutOk, Int32.lt_iff_toInt_lt, Int32.le_iff_toInt_le, ← Int32.toInt_inj, Int32.toInt_add, Int32.toInt_sub, Int32.toInt_mul, Int32.toInt_neg, zbm, zbm', t600, t1, t0, t400] at c1 c2 hi hw hk ⊢) <;> omega) (by have := ti_lo v2; have := ti_hi v2; have := ti_lo he; have := ti_hi he; have t0 : Int32.toInt 0 = 0 := rfl; have t1 : Int32.toInt 1 = 1 := rfl; have t600 : Int32.toInt 600 = 600 := rfl; have t400 : Int32.toInt 400 = 400 := rfl; (try simp only [true_or, or_true, true_and, and_true, z_tn, CellsOk, CallsOk, TextOk, MemOk, OutOk, Int32.lt_iff_toInt_lt, Int32.le_iff_toInt_le, ← Int32.toInt_inj, Int32.toInt_add, Int32.toInt_sub, Int32.toInt_mul, Int32.toInt_neg, zbm, zbm', t0, t1, t600, t400] at c1 c2 hi hw ⊢) <;> omega) _ _ _ hP hD hS (lv_sub hl [0, 1, 2] rfl) hF
  exact loop (((600 - (0 : Int32).toInt).toNat) + 1) 0 0 (Nat.lt_succ_self _) (by have := ti_lo he; have := ti_hi he; have t0 : Int32.toInt 0 = 0 := rfl; (try simp only [true_or, or_true, true_and, and_true, z_tn, CellsOk, CallsOk, TextOk, MemOk, OutOk, Int32.lt_iff_toInt_lt, Int32.le_iff_toInt_le, ← Int32.toInt_inj, Int32.toInt_add, Int32.toInt_sub, Int32.toInt_mul, Int32.toInt_neg, zbm, zbm', t0] at hi ⊢) <;> omega) _ _ _ hP hD hS (lv_sub hl [0, 1, 2] rfl) hF
def F_Memory_cellsInBlocks_L4 (fb : Nat → Int32) : Nat → (Int32) → (Int32) → Int32
  | 0, _, _ => 0
  | k4 + 1, v2, v1 => if 600 ≤ v2 then v1 else (if (fb v2.toNatClampNeg) = 0 then (F_Memory_cellsInBlocks_L4 fb k4 (v2 + 1) v1) else (F_Memory_cellsInBlocks_L4 fb k4 (v2 + 1) (v1 + 1)))
theorem F_Memory_cellsInBlocks_L4_s (fb : Nat → Int32) (k4 : Nat) (v2 : Int32) (v1 : Int32) : F_Memory_cellsInBlocks_L4 fb (k4 + 1) v2 v1 = if 600 ≤ v2 then v1 else (if (fb v2.toNatClampNeg) = 0 then (F_Memory_cellsInBlocks_L4 fb k4 (v2 + 1) v1) else (F_Memory_cellsInBlocks_L4 fb k4 (v2 + 1) (v1 + 1))) := rfl
/-- the picture of ColonMachine$Memory.cellsInBlocks -/
def F_Memory_cellsInBlocks (fb : Nat → Int32) : Int32 := F_Memory_cellsInBlocks_L4 fb (((600 - (0 : Int32).toInt).toNat) + 1) 0 0
theorem F_Memory_cellsInBlocks_e (fb : Nat → Int32) : F_Memory_cellsInBlocks fb = F_Memory_cellsInBlocks_L4 fb (((600 - (0 : Int32).toInt).toNat) + 1) 0 0 := rfl
set_option maxHeartbeats 4000000 in
set_option maxRecDepth 100000 in
theorem c_Memory_cellsInBlocks (l : Launch) (D : va_G) (cI cJ cZ cW cT : ClassId) (sz : Nat) (h : Nat) (ac : Nat) (ab : Nat) (he : Int32) (fb : Nat → Int32) (hi : MemOk he) : Met l y_Memory_cellsInBlocks w_Memory_cellsInBlocks ({ frames := 0, cells := 0, slots := 0, locals := 0 }) (va_Pc [.ref h] (zP D classes (TY cI cJ cZ cW cT) [(h, .inr (4, [.ref ac, .ref ab, .int he])), (ab, .inl (cI, 600, .inl fb))] sz)) (va_Qi (fun (r : Int32) (_ : Unit) => r = F_Memory_cellsInBlocks fb ∧ (True)) (fun _ => zB D classes (TY cI cJ cZ cW cT) (va_A [(h, .inr (4, [.ref ac, .ref ab, .int he])), (ab, .inl (cI, 600, .inl fb))] sz) [(h, .inr (4, [.ref ac, .ref ab, .int he])), (ab, .inl (cI, 600, .inl fb))]) (va_A [(h, .inr (4, [.ref ac, .ref ab, .int he])), (ab, .inl (cI, 600, .inl fb))] sz)) 0 0 (va_A [(h, .inr (4, [.ref ac, .ref ab, .int he])), (ab, .inl (cI, 600, .inl fb))] sz) := by
  refine Met.ofW (cc := b_Memory_cellsInBlocks) (maxL := 3) (ret := (some .int)) (by decide) rfl ?_
  intro p e s m args below meth c s₁ B hml hv
  obtain ⟨rfl, hsz, hP, hK, hD0, hE⟩ := hv
  have hx := B.exec
  have hb := B.bytes
  have hr := B.returns
  have hts := atoms_spec (ws := w_Memory_cellsInBlocks) B.pre
  have hT : ∀ w ∈ TB, w.before _ s = true := fun w h => hts w (List.mem_cons_of_mem _ h)
  have hown : s.vm.findClass "ColonMachine$Memory" = some m.cls := findClass_of_methodNamed B.named
  have hlocks := B.notSynchronized
  subst hsz
  have hD := hD0.self (sz := s.heap.size)
  generalize hAe : va_A [(h, .inr (4, [.ref ac, .ref ab, .int he])), (ab, .inl (cI, 600, .inl fb))] s.heap.size = A at hD hE ⊢
  have hA : ∀ q : Nat, s.heap.size ≤ q → A q := fun q h => by rw [← hAe]; exact Or.inr h
  have hS : va_S A s.heap s.heap [] := va_S.rf
  have hl := lv_entry [.ref h] (n := 3) (Nat.le_of_ble_eq_true rfl)
  rw [lg_entry_eq]
  generalize (lg_sl [.ref h] ++ List.replicate (3 - (lg_sl [.ref h]).length) Slot.unset).toArray = ls at hl ⊢
  have hl : lv_has ls 3 [(0, .ref h)] := hl
  have hF := F_Memory_cellsInBlocks_e fb
  refine lv_iconst (v := 0) hx hb d_Memory_cellsInBlocks_0 (by decide) ?_
  refine lv_istore_n (lv' := [(1, .int 0), (0, .ref h)]) hx hb d_Memory_cellsInBlocks_1 rfl hl (by decide) rfl (fun ls hl => ?_)
  refine lv_iconst (v := 0) hx hb d_Memory_cellsInBlocks_2 (by decide) ?_
  refine lv_istore_n (lv' := [(2, .int 0), (1, .int 0), (0, .ref h)]) hx hb d_Memory_cellsInBlocks_3 rfl hl (by decide) rfl (fun ls hl => ?_)
  have loop : ∀ (k4 : Nat) (v2 : Int32) (v1 : Int32) (hk : (600 - v2.toInt).toNat < k4) (hw : 0 ≤ v2.toInt) (H : Heap) (locs : List Loc) (ls : Array Slot) (hP : va_P D classes [(h, .inr (4, [.ref ac, .ref ab, .int he])), (ab, .inl (cI, 600, .inl fb))] H) (hD : va_D A [(h, .inr (4, [.ref ac, .ref ab, .int he])), (ab, .inl (cI, 600, .inl fb))]) (hS : va_S A s.heap H locs) (hl : lv_has ls 3 [(2, .int v2), (1, .int v1), (0, .ref h)]) (hF : F_Memory_cellsInBlocks fb = F_Memory_cellsInBlocks_L4 fb k4 v2 v1), W p l e (headSpec w_Memory_cellsInBlocks ({ frames := 0, cells := 0, slots := 0, locals := 0 })).room s m (List.toArray [.ref h]) below meth c H locs 0 0 (MQ below (va_Qi (fun (r : Int32) (_ : Unit) => r = F_Memory_cellsInBlocks fb ∧ (True)) (fun _ => zB D classes (TY cI cJ cZ cW cT) A [(h, .inr (4, [.ref ac, .ref ab, .int he])), (ab, .inl (cI, 600, .inl fb))]) A) (List.toArray [.ref h]) s 0 0 A) (F0 m 4 ls []) := by
    intro k4
    induction k4 with
    | zero => intro v2 v1 hk; exact absurd hk (Nat.not_lt_zero _)
    | succ k4 ih =>
      intro v2 v1 hk hw H locs ls hP hD hS hl hF
      have hF := hF.trans (F_Memory_cellsInBlocks_L4_s fb k4 v2 v1)
      refine lv_iload_n hx hb d_Memory_cellsInBlocks_4 rfl (lv_at hl 0 rfl) ?_
      refine lv_aload_n hx hb d_Memory_cellsInBlocks_5 rfl (lv_at hl 2 rfl) ?_
      refine va_get (D := D) (v := .ref ab) (C := "ColonMachine$Memory") (T := T_Memory) (N := 3) hx hb hT i_Memory hown hK hP 0 rfl rfl 1 (by decide) (hT _ fl_Memory_13) (fun _ h9 => h9) rfl d_Memory_cellsInBlocks_6 ?_
      refine va_alen (v := 600) hx hb hK hP 1 0 rfl rfl rfl d_Memory_cellsInBlocks_9 ?_
      refine lv_icmp_ge (tgt := 31) hx hb d_Memory_cellsInBlocks_10 (by decide) (fun c1 => ?_) (fun c1 => ?_)
      · have hF := hF.trans (if_pos c1)
        refine lv_iload_n hx hb d_Memory_cellsInBlocks_31 rfl (lv_at hl 1 rfl) ?_
        exact W.iret (v := v1) hx hb hr (fun t ht hW => ⟨⟨_, (), rfl, ⟨hF.symm, trivial⟩, ⟨by rw [ht]; exact hP, va_K.moved hW.alike hK, hD⟩⟩, hS.F ht⟩) hS.2.2 d_Memory_cellsInBlocks_32
      · have hF := hF.trans (if_neg c1)
        refine lv_aload_n hx hb d_Memory_cellsInBlocks_13 rfl (lv_at hl 2 rfl) ?_
        refine va_get (D := D) (v := .ref ab) (C := "ColonMachine$Memory") (T := T_Memory) (N := 3) hx hb hT i_Memory hown hK hP 0 rfl rfl 1 (by decide) (hT _ fl_Memory_13) (fun _ h9 => h9) rfl d_Memory_cellsInBlocks_14 ?_
        refine lv_iload_n hx hb d_Memory_cellsInBlocks_17 rfl (lv_at hl 0 rfl) ?_
        refine va_iald hx hb hK hP 1 0 rfl rfl (by have := ti_lo v2; have := ti_hi v2; have := ti_lo he; have := ti_hi he; have t600 : Int32.toInt 600 = 600 := rfl; have t0 : Int32.toInt 0 = 0 := rfl; rw [vp_in_iff]; (try simp only [true_or, or_true, true_and, and_true, z_tn, CellsOk, CallsOk, TextOk, MemOk, OutOk, Int32.lt_iff_toInt_lt, Int32.le_iff_toInt_le, ← Int32.toInt_inj, Int32.toInt_add, Int32.toInt_sub, Int32.toInt_mul, Int32.toInt_neg, zbm, zbm', t600, t0] at c1 hi hw ⊢) <;> omega) d_Memory_cellsInBlocks_18 ?_
        refine lv_if_eq (tgt := 25) hx hb d_Memory_cellsInBlocks_19 (by decide) (fun c2 => ?_) (fun c2 => ?_)
        · have hF := hF.trans (if_pos c2)
          refine lv_iinc (v := v2 + 1) (lv' := [(2, .int (v2 + 1)), (1, .int v1), (0, .ref h)]) hx hb d_Memory_cellsInBlocks_25 hl (k := 0) rfl rfl (by decide) rfl (fun ls hl => ?_)
          refine lv_goto (tgt := 4) hx hb d_Memory_cellsInBlocks_28 (by decide) ?_
          exact ih (v2 + 1) v1 (by have := ti_lo v2; have := ti_hi v2; have := ti_lo he; have := ti_hi he; have t600 : Int32.toInt 600 = 600 := rfl; have t1 : Int32.toInt 1 = 1 := rfl; have t0 : Int32.toInt 0 = 0 := rfl; (try simp only [true_or, or_true, true_and, and_true, z_tn, CellsOk, CallsOk, TextOk, MemOk, OutOk, Int32.lt_iff_toInt_lt, Int32.le_iff_toInt_le, ← Int32.toInt_inj, Int32.toInt_add, Int32.toInt_sub, Int32.toInt_mul, Int32.toInt_neg, zbm, zbm', t600, t1, t0] at c1 c2 hi hw hk ⊢) <;> omega) (by have := ti_lo v2; have := ti_hi v2; have := ti_lo he; have := ti_hi he; have t0 : Int32.toInt 0 = 0 := rfl; have t1 : Int32.toInt 1 = 1 := rfl; have t600 : Int32.toInt 600 = 600 := rfl; (try simp only [true_or, or_true, true_and, and_true, z_tn, CellsOk, CallsOk, TextOk, MemOk, OutOk, Int32.lt_iff_toInt_lt, Int32.le_iff_toInt_le, ← Int32.toInt_inj, Int32.toInt_add, Int32.toInt_sub, Int32.toInt_mul, Int32.toInt_neg, zbm, zbm', t0, t1, t600] at c1 c2 hi hw ⊢) <;> omega) _ _ _ hP hD hS (lv_sub hl [0, 1, 2] rfl) hF
        · have hF := hF.trans (if_neg c2)
          refine lv_iinc (v := v1 + 1) (lv' := [(1, .int (v1 + 1)), (2, .int v2), (0, .ref h)]) hx hb d_Memory_cellsInBlocks_22 hl (k := 1) rfl rfl (by decide) rfl (fun ls hl => ?_)
          refine lv_iinc (v := v2 + 1) (lv' := [(2, .int (v2 + 1)), (1, .int (v1 + 1)), (0, .ref h)]) hx hb d_Memory_cellsInBlocks_25 hl (k := 1) rfl rfl (by decide) rfl (fun ls hl => ?_)
          refine lv_goto (tgt := 4) hx hb d_Memory_cellsInBlocks_28 (by decide) ?_
          exact ih (v2 + 1) (v1 + 1) (by have := ti_lo v2; have := ti_hi v2; have := ti_lo he; have := ti_hi he; have t600 : Int32.toInt 600 = 600 := rfl; have t1 : Int32.toInt 1 = 1 := rfl; have t0 : Int32.toInt 0 = 0 := rfl; (try simp only [true_or, or_true, true_and, and_true, z_tn, CellsOk, CallsOk, TextOk, MemOk, OutOk, Int32.lt_iff_toInt_lt, Int32.le_iff_toInt_le, ← Int32.toInt_inj, Int32.toInt_add, Int32.toInt_sub, Int32.toInt_mul, Int32.toInt_neg, zbm, zbm', t600, t1, t0] at c1 c2 hi hw hk ⊢) <;> omega) (by have := ti_lo v2; have := ti_hi v2; have := ti_lo he; have := ti_hi he; have t0 : Int32.toInt 0 = 0 := rfl; have t1 : Int32.toInt 1 = 1 := rfl; have t600 : Int32.toInt 600 = 600 := rfl; (try simp only [true_or, or_true, true_and, and_true, z_tn, CellsOk, CallsOk, TextOk, MemOk, OutOk, Int32.lt_iff_toInt_lt, Int32.le_iff_toInt_le, ← Int32.toInt_inj, Int32.toInt_add, Int32.toInt_sub, Int32.toInt_mul, Int32.toInt_neg, zbm, zbm', t0, t1, t600] at c1 c2 hi hw ⊢) <;> omega) _ _ _ hP hD hS (lv_sub hl [0, 1, 2] rfl) hF
  exact loop (((600 - (0 : Int32).toInt).toNat) + 1) 0 0 (Nat.lt_succ_self _) (by have := ti_lo he; have := ti_hi he; have t0 : Int32.toInt 0 = 0 := rfl; (try simp only [true_or, or_true, true_and, and_true, z_tn, CellsOk, CallsOk, TextOk, MemOk, OutOk, Int32.lt_iff_toInt_lt, Int32.le_iff_toInt_le, ← Int32.toInt_inj, Int32.toInt_add, Int32.toInt_sub, Int32.toInt_mul, Int32.toInt_neg, zbm, zbm', t0] at hi ⊢) <;> omega) _ _ _ hP hD hS (lv_sub hl [0, 1, 2] rfl) hF
/-- the picture of ColonMachine$Memory.isBlock -/
def F_Memory_isBlock (fb : Nat → Int32) (x1 : Int32) : Int32 := if x1 < 400 then 0 else (if 1000 ≤ x1 then 0 else (if (fb (x1 - 400).toNatClampNeg) = x1 then 1 else 0))
theorem F_Memory_isBlock_e (fb : Nat → Int32) (x1 : Int32) : F_Memory_isBlock fb x1 = if x1 < 400 then 0 else (if 1000 ≤ x1 then 0 else (if (fb (x1 - 400).toNatClampNeg) = x1 then 1 else 0)) := rfl
set_option maxHeartbeats 4000000 in
set_option maxRecDepth 100000 in
theorem c_Memory_isBlock (l : Launch) (D : va_G) (cI cJ cZ cW cT : ClassId) (sz : Nat) (h : Nat) (ac : Nat) (ab : Nat) (he : Int32) (fb : Nat → Int32) (x1 : Int32) (hi : MemOk he) : Met l y_Memory_isBlock w_Memory_isBlock ({ frames := 0, cells := 0, slots := 0, locals := 0 }) (va_Pc [.ref h, .int x1] (zP D classes (TY cI cJ cZ cW cT) [(h, .inr (4, [.ref ac, .ref ab, .int he])), (ab, .inl (cI, 600, .inl fb))] sz)) (va_Qi (fun (r : Int32) (_ : Unit) => r = F_Memory_isBlock fb x1 ∧ ((r = 0 ∨ r = 1))) (fun _ => zB D classes (TY cI cJ cZ cW cT) (va_A [(h, .inr (4, [.ref ac, .ref ab, .int he])), (ab, .inl (cI, 600, .inl fb))] sz) [(h, .inr (4, [.ref ac, .ref ab, .int he])), (ab, .inl (cI, 600, .inl fb))]) (va_A [(h, .inr (4, [.ref ac, .ref ab, .int he])), (ab, .inl (cI, 600, .inl fb))] sz)) 0 0 (va_A [(h, .inr (4, [.ref ac, .ref ab, .int he])), (ab, .inl (cI, 600, .inl fb))] sz) := by
  refine Met.ofW (cc := b_Memory_isBlock) (maxL := 2) (ret := (some .boolean)) (by decide) rfl ?_
  intro p e s m args below meth c s₁ B hml hv
  obtain ⟨rfl, hsz, hP, hK, hD0, hE⟩ := hv
  have hx := B.exec
  have hb := B.bytes
  have hr := B.returns
  have hts := atoms_spec (ws := w_Memory_isBlock) B.pre
  have hT : ∀ w ∈ TB, w.before _ s = true := fun w h => hts w (List.mem_cons_of_mem _ h)
  have hown : s.vm.findClass "ColonMachine$Memory" = some m.cls := findClass_of_methodNamed B.named
  have hlocks := B.notSynchronized
  subst hsz
  have hD := hD0.self (sz := s.heap.size)
  generalize hAe : va_A [(h, .inr (4, [.ref ac, .ref ab, .int he])), (ab, .inl (cI, 600, .inl fb))] s.heap.size = A at hD hE ⊢
  have hA : ∀ q : Nat, s.heap.size ≤ q → A q := fun q h => by rw [← hAe]; exact Or.inr h
  have hS : va_S A s.heap s.heap [] := va_S.rf
  have hl := lv_entry [.ref h, .int x1] (n := 2) (Nat.le_of_ble_eq_true rfl)
  rw [lg_entry_eq]
  generalize (lg_sl [.ref h, .int x1] ++ List.replicate (2 - (lg_sl [.ref h, .int x1]).length) Slot.unset).toArray = ls at hl ⊢
  have hl : lv_has ls 2 [(0, .ref h), (1, .int x1)] := hl
  have hF := F_Memory_isBlock_e fb x1
  refine lv_iload_n hx hb d_Memory_isBlock_0 rfl (lv_at hl 1 rfl) ?_
  refine lv_sipush (v := 400) hx hb d_Memory_isBlock_1 (by decide) ?_
  refine lv_icmp_lt (tgt := 32) hx hb d_Memory_isBlock_4 (by decide) (fun c1 => ?_) (fun c1 => ?_)
  · have hF := hF.trans (if_pos c1)
    refine lv_iconst (v := 0) hx hb d_Memory_isBlock_32 (by decide) ?_
    exact W.zret (v := 0) hx hb hr rfl (fun t ht hW => ⟨⟨_, (), rfl, ⟨hF.symm, (Or.inl rfl)⟩, ⟨by rw [ht]; exact hP, va_K.moved hW.alike hK, hD⟩⟩, hS.F ht⟩) hS.2.2 d_Memory_isBlock_33
  · have hF := hF.trans (if_neg c1)
    refine lv_iload_n hx hb d_Memory_isBlock_7 rfl (lv_at hl 1 rfl) ?_
    refine lv_sipush (v := 1000) hx hb d_Memory_isBlock_8 (by decide) ?_
    refine lv_icmp_ge (tgt := 32) hx hb d_Memory_isBlock_11 (by decide) (fun c2 => ?_) (fun c2 => ?_)
    · have hF := hF.trans (if_pos c2)
      refine lv_iconst (v := 0) hx hb d_Memory_isBlock_32 (by decide) ?_
      exact W.zret (v := 0) hx hb hr rfl (fun t ht hW => ⟨⟨_, (), rfl, ⟨hF.symm, (Or.inl rfl)⟩, ⟨by rw [ht]; exact hP, va_K.moved hW.alike hK, hD⟩⟩, hS.F ht⟩) hS.2.2 d_Memory_isBlock_33
    · have hF := hF.trans (if_neg c2)
      refine lv_aload_n hx hb d_Memory_isBlock_14 rfl (lv_at hl 0 rfl) ?_
      refine va_get (D := D) (v := .ref ab) (C := "ColonMachine$Memory") (T := T_Memory) (N := 3) hx hb hT i_Memory hown hK hP 0 rfl rfl 1 (by decide) (hT _ fl_Memory_13) (fun _ h9 => h9) rfl d_Memory_isBlock_15 ?_
      refine lv_iload_n hx hb d_Memory_isBlock_18 rfl (lv_at hl 1 rfl) ?_
      refine lv_sipush (v := 400) hx hb d_Memory_isBlock_19 (by decide) ?_
      refine lv_isub hx hb d_Memory_isBlock_22 ?_
      refine va_iald hx hb hK hP 1 0 rfl rfl (by have := ti_lo x1; have := ti_hi x1; have := ti_lo he; have := ti_hi he; have t400 : Int32.toInt 400 = 400 := rfl; have t600 : Int32.toInt 600 = 600 := rfl; have t1000 : Int32.toInt 1000 = 1000 := rfl; rw [vp_in_iff]; (try simp only [true_or, or_true, true_and, and_true, z_tn, CellsOk, CallsOk, TextOk, MemOk, OutOk, Int32.lt_iff_toInt_lt, Int32.le_iff_toInt_le, ← Int32.toInt_inj, Int32.toInt_add, Int32.toInt_sub, Int32.toInt_mul, Int32.toInt_neg, zbm, zbm', t400, t600, t1000] at c1 c2 hi ⊢) <;> omega) d_Memory_isBlock_23 ?_
      refine lv_iload_n hx hb d_Memory_isBlock_24 rfl (lv_at hl 1 rfl) ?_
      refine lv_icmp_ne (tgt := 32) hx hb d_Memory_isBlock_25 (by decide) (fun c3 => ?_) (fun c3 => ?_)
      · have hF := hF.trans (if_neg c3)
        refine lv_iconst (v := 0) hx hb d_Memory_isBlock_32 (by decide) ?_
        exact W.zret (v := 0) hx hb hr rfl (fun t ht hW => ⟨⟨_, (), rfl, ⟨hF.symm, (Or.inl rfl)⟩, ⟨by rw [ht]; exact hP, va_K.moved hW.alike hK, hD⟩⟩, hS.F ht⟩) hS.2.2 d_Memory_isBlock_33
      · have hF := hF.trans (if_pos c3)
        refine lv_iconst (v := 1) hx hb d_Memory_isBlock_28 (by decide) ?_
        refine lv_goto (tgt := 33) hx hb d_Memory_isBlock_29 (by decide) ?_
        exact W.zret (v := 1) hx hb hr rfl (fun t ht hW => ⟨⟨_, (), rfl, ⟨hF.symm, (Or.inr rfl)⟩, ⟨by rw [ht]; exact hP, va_K.moved hW.alike hK, hD⟩⟩, hS.F ht⟩) hS.2.2 d_Memory_isBlock_33
def F_Memory_sizeOf_L4 (fb : Nat → Int32) (x1 : Int32) : Nat → (Int32) → (Int32) → Int32
  | 0, _, _ => 0
  | k4 + 1, v3, v2 => if 1000 ≤ v3 then v2 else (if v3 < 400 then v2 else (if (fb (v3 - 400).toNatClampNeg) = x1 then (F_Memory_sizeOf_L4 fb x1 k4 (v3 + 1) (v2 + 1)) else v2))
theorem F_Memory_sizeOf_L4_s (fb : Nat → Int32) (x1 : Int32) (k4 : Nat) (v3 : Int32) (v2 : Int32) : F_Memory_sizeOf_L4 fb x1 (k4 + 1) v3 v2 = if 1000 ≤ v3 then v2 else (if v3 < 400 then v2 else (if (fb (v3 - 400).toNatClampNeg) = x1 then (F_Memory_sizeOf_L4 fb x1 k4 (v3 + 1) (v2 + 1)) else v2)) := rfl
/-- the picture of ColonMachine$Memory.sizeOf -/
def F_Memory_sizeOf (fb : Nat → Int32) (x1 : Int32) : Int32 := F_Memory_sizeOf_L4 fb x1 (((1000 - x1.toInt).toNat) + 1) x1 0
theorem F_Memory_sizeOf_e (fb : Nat → Int32) (x1 : Int32) : F_Memory_sizeOf fb x1 = F_Memory_sizeOf_L4 fb x1 (((1000 - x1.toInt).toNat) + 1) x1 0 := rfl
set_option maxHeartbeats 4000000 in
set_option maxRecDepth 100000 in
theorem c_Memory_sizeOf (l : Launch) (D : va_G) (cI cJ cZ cW cT : ClassId) (sz : Nat) (h : Nat) (ac : Nat) (ab : Nat) (he : Int32) (fb : Nat → Int32) (x1 : Int32) (hi : MemOk he) : Met l y_Memory_sizeOf w_Memory_sizeOf ({ frames := 0, cells := 0, slots := 0, locals := 0 }) (va_Pc [.ref h, .int x1] (zP D classes (TY cI cJ cZ cW cT) [(h, .inr (4, [.ref ac, .ref ab, .int he])), (ab, .inl (cI, 600, .inl fb))] sz)) (va_Qi (fun (r : Int32) (_ : Unit) => r = F_Memory_sizeOf fb x1 ∧ (True)) (fun _ => zB D classes (TY cI cJ cZ cW cT) (va_A [(h, .inr (4, [.ref ac, .ref ab, .int he])), (ab, .inl (cI, 600, .inl fb))] sz) [(h, .inr (4, [.ref ac, .ref ab, .int he])), (ab, .inl (cI, 600, .inl fb))]) (va_A [(h, .inr (4, [.ref ac, .ref ab, .int he])), (ab, .inl (cI, 600, .inl fb))] sz)) 0 0 (va_A [(h, .inr (4, [.ref ac, .ref ab, .int he])), (ab, .inl (cI, 600, .inl fb))] sz) := by
  refine Met.ofW (cc := b_Memory_sizeOf) (maxL := 4) (ret := (some .int)) (by decide) rfl ?_
  intro p e s m args below meth c s₁ B hml hv
  obtain ⟨rfl, hsz, hP, hK, hD0, hE⟩ := hv
  have hx := B.exec
  have hb := B.bytes
  have hr := B.returns
  have hts := atoms_spec (ws := w_Memory_sizeOf) B.pre
  have hT : ∀ w ∈ TB, w.before _ s = true := fun w h => hts w (List.mem_cons_of_mem _ h)
  have hown : s.vm.findClass "ColonMachine$Memory" = some m.cls := findClass_of_methodNamed B.named
  have hlocks := B.notSynchronized
  subst hsz
  have hD := hD0.self (sz := s.heap.size)
  generalize hAe : va_A [(h, .inr (4, [.ref ac, .ref ab, .int he])), (ab, .inl (cI, 600, .inl fb))] s.heap.size = A at hD hE ⊢
  have hA : ∀ q : Nat, s.heap.size ≤ q → A q := fun q h => by rw [← hAe]; exact Or.inr h
  have hS : va_S A s.heap s.heap [] := va_S.rf
  have hl := lv_entry [.ref h, .int x1] (n := 4) (Nat.le_of_ble_eq_true rfl)
  rw [lg_entry_eq]
  generalize (lg_sl [.ref h, .int x1] ++ List.replicate (4 - (lg_sl [.ref h, .int x1]).length) Slot.unset).toArray = ls at hl ⊢
  have hl : lv_has ls 4 [(0, .ref h), (1, .int x1)] := hl
  have hF := F_Memory_sizeOf_e fb x1
  refine lv_iconst (v := 0) hx hb d_Memory_sizeOf_0 (by decide) ?_
  refine lv_istore_n (lv' := [(2, .int 0), (0, .ref h), (1, .int x1)]) hx hb d_Memory_sizeOf_1 rfl hl (by decide) rfl (fun ls hl => ?_)
  refine lv_iload_n hx hb d_Memory_sizeOf_2 rfl (lv_at hl 2 rfl) ?_
  refine lv_istore_n (lv' := [(3, .int x1), (2, .int 0), (0, .ref h), (1, .int x1)]) hx hb d_Memory_sizeOf_3 rfl hl (by decide) rfl (fun ls hl => ?_)
  have loop : ∀ (k4 : Nat) (v3 : Int32) (v2 : Int32) (hk : (1000 - v3.toInt).toNat < k4)  (H : Heap) (locs : List Loc) (ls : Array Slot) (hP : va_P D classes [(h, .inr (4, [.ref ac, .ref ab, .int he])), (ab, .inl (cI, 600, .inl fb))] H) (hD : va_D A [(h, .inr (4, [.ref ac, .ref ab, .int he])), (ab, .inl (cI, 600, .inl fb))]) (hS : va_S A s.heap H locs) (hl : lv_has ls 4 [(3, .int v3), (2, .int v2), (0, .ref h), (1, .int x1)]) (hF : F_Memory_sizeOf fb x1 = F_Memory_sizeOf_L4 fb x1 k4 v3 v2), W p l e (headSpec w_Memory_sizeOf ({ frames := 0, cells := 0, slots := 0, locals := 0 })).room s m (List.toArray [.ref h, .int x1]) below meth c H locs 0 0 (MQ below (va_Qi (fun (r : Int32) (_ : Unit) => r = F_Memory_sizeOf fb x1 ∧ (True)) (fun _ => zB D classes (TY cI cJ cZ cW cT) A [(h, .inr (4, [.ref ac, .ref ab, .int he])), (ab, .inl (cI, 600, .inl fb))]) A) (List.toArray [.ref h, .int x1]) s 0 0 A) (F0 m 4 ls []) := by
    intro k4
    induction k4 with
    | zero => intro v3 v2 hk; exact absurd hk (Nat.not_lt_zero _)
    | succ k4 ih =>
      intro v3 v2 hk  H locs ls hP hD hS hl hF
      have hF := hF.trans (F_Memory_sizeOf_L4_s fb x1 k4 v3 v2)
      refine lv_iload_n hx hb d_Memory_sizeOf_4 rfl (lv_at hl 0 rfl) ?_
      refine lv_sipush (v := 1000) hx hb d_Memory_sizeOf_5 (by decide) ?_
      refine lv_icmp_ge (tgt := 41) hx hb d_Memory_sizeOf_8 (by decide) (fun c1 => ?_) (fun c1 => ?_)
      · have hF := hF.trans (if_pos c1)
        refine lv_iload_n hx hb d_Memory_sizeOf_41 rfl (lv_at hl 1 rfl) ?_
        exact W.iret (v := v2) hx hb hr (fun t ht hW => ⟨⟨_, (), rfl, ⟨hF.symm, trivial⟩, ⟨by rw [ht]; exact hP, va_K.moved hW.alike hK, hD⟩⟩, hS.F ht⟩) hS.2.2 d_Memory_sizeOf_42
      · have hF := hF.trans (if_neg c1)
        refine lv_iload_n hx hb d_Memory_sizeOf_11 rfl (lv_at hl 0 rfl) ?_
        refine lv_sipush (v := 400) hx hb d_Memory_sizeOf_12 (by decide) ?_
        refine lv_icmp_lt (tgt := 41) hx hb d_Memory_sizeOf_15 (by decide) (fun c2 => ?_) (fun c2 => ?_)
        · have hF := hF.trans (if_pos c2)
          refine lv_iload_n hx hb d_Memory_sizeOf_41 rfl (lv_at hl 1 rfl) ?_
          exact W.iret (v := v2) hx hb hr (fun t ht hW => ⟨⟨_, (), rfl, ⟨hF.symm, trivial⟩, ⟨by rw [ht]; exact hP, va_K.moved hW.alike hK, hD⟩⟩, hS.F ht⟩) hS.2.2 d_Memory_sizeOf_42
        · have hF := hF.trans (if_neg c2)
          refine lv_aload_n hx hb d_Memory_sizeOf_18 rfl (lv_at hl 2 rfl) ?_
          refine va_get (D := D) (v := .ref ab) (C := "ColonMachine$Memory") (T := T_Memory) (N := 3) hx hb hT i_Memory hown hK hP 0 rfl rfl 1 (by decide) (hT _ fl_Memory_13) (fun _ h9 => h9) rfl d_Memory_sizeOf_19 ?_
          refine lv_iload_n hx hb d_Memory_sizeOf_22 rfl (lv_at hl 0 rfl) ?_
          refine lv_sipush (v := 400) hx hb d_Memory_sizeOf_23 (by decide) ?_
          refine lv_isub hx hb d_Memory_sizeOf_26 ?_
          refine va_iald hx hb hK hP 1 0 rfl rfl (by have := ti_lo v3; have := ti_hi v3; have := ti_lo he; have := ti_hi he; have t400 : Int32.toInt 400 = 400 := rfl; have t600 : Int32.toInt 600 = 600 := rfl; have t1000 : Int32.toInt 1000 = 1000 := rfl; rw [vp_in_iff]; (try simp only [true_or, or_true, true_and, and_true, z_tn, CellsOk, CallsOk, TextOk, MemOk, OutOk, Int32.lt_iff_toInt_lt, Int32.le_iff_toInt_le, ← Int32.toInt_inj, Int32.toInt_add, Int32.toInt_sub, Int32.toInt_mul, Int32.toInt_neg, zbm, zbm', t400, t600, t1000] at c1 c2 hi ⊢) <;> omega) d_Memory_sizeOf_27 ?_
          refine lv_iload_n hx hb d_Memory_sizeOf_28 rfl (lv_at hl 3 rfl) ?_
          refine lv_icmp_ne (tgt := 41) hx hb d_Memory_sizeOf_29 (by decide) (fun c3 => ?_) (fun c3 => ?_)
          · have hF := hF.trans (if_neg c3)
            refine lv_iload_n hx hb d_Memory_sizeOf_41 rfl (lv_at hl 1 rfl) ?_
            exact W.iret (v := v2) hx hb hr (fun t ht hW => ⟨⟨_, (), rfl, ⟨hF.symm, trivial⟩, ⟨by rw [ht]; exact hP, va_K.moved hW.alike hK, hD⟩⟩, hS.F ht⟩) hS.2.2 d_Memory_sizeOf_42
          · have hF := hF.trans (if_pos c3)
            refine lv_iinc (v := v2 + 1) (lv' := [(2, .int (v2 + 1)), (3, .int v3), (0, .ref h), (1, .int x1)]) hx hb d_Memory_sizeOf_32 hl (k := 1) rfl rfl (by decide) rfl (fun ls hl => ?_)
            refine lv_iinc (v := v3 + 1) (lv' := [(3, .int (v3 + 1)), (2, .int (v2 + 1)), (0, .ref h), (1, .int x1)]) hx hb d_Memory_sizeOf_35 hl (k := 1) rfl rfl (by decide) rfl (fun ls hl => ?_)
            refine lv_goto (tgt := 4) hx hb d_Memory_sizeOf_38 (by decide) ?_
            exact ih (v3 + 1) (v2 + 1) (by have := ti_lo v3; have := ti_hi v3; have := ti_lo he; have := ti_hi he; have := ti_lo x1; have := ti_hi x1; have t1000 : Int32.toInt 1000 = 1000 := rfl; have t1 : Int32.toInt 1 = 1 := rfl; have t400 : Int32.toInt 400 = 400 := rfl; (try simp only [true_or, or_true, true_and, and_true, z_tn, CellsOk, CallsOk, TextOk, MemOk, OutOk, Int32.lt_iff_toInt_lt, Int32.le_iff_toInt_le, ← Int32.toInt_inj, Int32.toInt_add, Int32.toInt_sub, Int32.toInt_mul, Int32.toInt_neg, zbm, zbm', t1000, t1, t400] at c1 c2 c3 hi hk ⊢) <;> omega)  _ _ _ hP hD hS (lv_sub hl [0, 1, 2, 3] rfl) hF
  exact loop (((1000 - x1.toInt).toNat) + 1) x1 0 (Nat.lt_succ_self _)  _ _ _ hP hD hS (lv_sub hl [0, 1, 2, 3] rfl) hF
def F_Memory_lowestPlace_L4 (fb : Nat → Int32) (x1 : Int32) : Nat → (Int32) → (Int32) → Int32
  | 0, _, _ => 0
  | k4 + 1, v3, v2 => if 600 ≤ v3 then 0 else (if (fb v3.toNatClampNeg) = 0 then (if (v2 + 1) = x1 then (((400 + v3) + 1) - x1) else (F_Memory_lowestPlace_L4 fb x1 k4 (v3 + 1) (v2 + 1))) else (if 0 = x1 then (((400 + v3) + 1) - x1) else (F_Memory_lowestPlace_L4 fb x1 k4 (v3 + 1) 0)))
theorem F_Memory_lowestPlace_L4_s (fb : Nat → Int32) (x1 : Int32) (k4 : Nat) (v3 : Int32) (v2 : Int32) : F_Memory_lowestPlace_L4 fb x1 (k4 + 1) v3 v2 = if 600 ≤ v3 then 0 else (if (fb v3.toNatClampNeg) = 0 then (if (v2 + 1) = x1 then (((400 + v3) + 1) - x1) else (F_Memory_lowestPlace_L4 fb x1 k4 (v3 + 1) (v2 + 1))) else (if 0 = x1 then (((400 + v3) + 1) - x1) else (F_Memory_lowestPlace_L4 fb x1 k4 (v3 + 1) 0))) := rfl
/-- the picture of ColonMachine$Memory.lowestPlace -/
def F_Memory_lowestPlace (fb : Nat → Int32) (x1 : Int32) : Int32 := F_Memory_lowestPlace_L4 fb x1 (((600 - (0 : Int32).toInt).toNat) + 1) 0 0
theorem F_Memory_lowestPlace_e (fb : Nat → Int32) (x1 : Int32) : F_Memory_lowestPlace fb x1 = F_Memory_lowestPlace_L4 fb x1 (((600 - (0 : Int32).toInt).toNat) + 1) 0 0 := rfl
set_option maxHeartbeats 4000000 in
set_option maxRecDepth 100000 in
theorem c_Memory_lowestPlace (l : Launch) (D : va_G) (cI cJ cZ cW cT : ClassId) (sz : Nat) (h : Nat) (ac : Nat) (ab : Nat) (he : Int32) (fb : Nat → Int32) (x1 : Int32) (hi : MemOk he) : Met l y_Memory_lowestPlace w_Memory_lowestPlace ({ frames := 0, cells := 0, slots := 0, locals := 0 }) (va_Pc [.ref h, .int x1] (zP D classes (TY cI cJ cZ cW cT) [(h, .inr (4, [.ref ac, .ref ab, .int he])), (ab, .inl (cI, 600, .inl fb))] sz)) (va_Qi (fun (r : Int32) (_ : Unit) => r = F_Memory_lowestPlace fb x1 ∧ (True)) (fun _ => zB D classes (TY cI cJ cZ cW cT) (va_A [(h, .inr (4, [.ref ac, .ref ab, .int he])), (ab, .inl (cI, 600, .inl fb))] sz) [(h, .inr (4, [.ref ac, .ref ab, .int he])), (ab, .inl (cI, 600, .inl fb))]) (va_A [(h, .inr (4, [.ref ac, .ref ab, .int he])), (ab, .inl (cI, 600, .inl fb))] sz)) 0 0 (va_A [(h, .inr (4, [.ref ac, .ref ab, .int he])), (ab, .inl (cI, 600, .inl fb))] sz) := by
  refine Met.ofW (cc := b_Memory_lowestPlace) (maxL := 4) (ret := (some .int)) (by decide) rfl ?_
  intro p e s m args below meth c s₁ B hml hv
  obtain ⟨rfl, hsz, hP, hK, hD0, hE⟩ := hv
  have hx := B.exec
  have hb := B.bytes
  have hr := B.returns
  have hts := atoms_spec (ws := w_Memory_lowestPlace) B.pre
  have hT : ∀ w ∈ TB, w.before _ s = true := fun w h => hts w (List.mem_cons_of_mem _ h)
  have hown : s.vm.findClass "ColonMachine$Memory" = some m.cls := findClass_of_methodNamed B.named
  have hlocks := B.notSynchronized
  subst hsz
  have hD := hD0.self (sz := s.heap.size)
  generalize hAe : va_A [(h, .inr (4, [.ref ac, .ref ab, .int he])), (ab, .inl (cI, 600, .inl fb))] s.heap.size = A at hD hE ⊢
  have hA : ∀ q : Nat, s.heap.size ≤ q → A q := fun q h => by rw [← hAe]; exact Or.inr h
  have hS : va_S A s.heap s.heap [] := va_S.rf
  have hl := lv_entry [.ref h, .int x1] (n := 4) (Nat.le_of_ble_eq_true rfl)
  rw [lg_entry_eq]
  generalize (lg_sl [.ref h, .int x1] ++ List.replicate (4 - (lg_sl [.ref h, .int x1]).length) Slot.unset).toArray = ls at hl ⊢
  have hl : lv_has ls 4 [(0, .ref h), (1, .int x1)] := hl
  have hF := F_Memory_lowestPlace_e fb x1
  refine lv_iconst (v := 0) hx hb d_Memory_lowestPlace_0 (by decide) ?_
  refine lv_istore_n (lv' := [(2, .int 0), (0, .ref h), (1, .int x1)]) hx hb d_Memory_lowestPlace_1 rfl hl (by decide) rfl (fun ls hl => ?_)
  refine lv_iconst (v := 0) hx hb d_Memory_lowestPlace_2 (by decide) ?_
  refine lv_istore_n (lv' := [(3, .int 0), (2, .int 0), (0, .ref h), (1, .int x1)]) hx hb d_Memory_lowestPlace_3 rfl hl (by decide) rfl (fun ls hl => ?_)
  have loop : ∀ (k4 : Nat) (v3 : Int32) (v2 : Int32) (hk : (600 - v3.toInt).toNat < k4) (hw : 0 ≤ v3.toInt) (H : Heap) (locs : List Loc) (ls : Array Slot) (hP : va_P D classes [(h, .inr (4, [.ref ac, .ref ab, .int he])), (ab, .inl (cI, 600, .inl fb))] H) (hD : va_D A [(h, .inr (4, [.ref ac, .ref ab, .int he])), (ab, .inl (cI, 600, .inl fb))]) (hS : va_S A s.heap H locs) (hl : lv_has ls 4 [(3, .int v3), (2, .int v2), (0, .ref h), (1, .int x1)]) (hF : F_Memory_lowestPlace fb x1 = F_Memory_lowestPlace_L4 fb x1 k4 v3 v2), W p l e (headSpec w_Memory_lowestPlace ({ frames := 0, cells := 0, slots := 0, locals := 0 })).room s m (List.toArray [.ref h, .int x1]) below meth c H locs 0 0 (MQ below (va_Qi (fun (r : Int32) (_ : Unit) => r = F_Memory_lowestPlace fb x1 ∧ (True)) (fun _ => zB D classes (TY cI cJ cZ cW cT) A [(h, .inr (4, [.ref ac, .ref ab, .int he])), (ab, .inl (cI, 600, .inl fb))]) A) (List.toArray [.ref h, .int x1]) s 0 0 A) (F0 m 4 ls []) := by
    intro k4
    induction k4 with
    | zero => intro v3 v2 hk; exact absurd hk (Nat.not_lt_zero _)
    | succ k4 ih =>
      intro v3 v2 hk hw H locs ls hP hD hS hl hF
      have hF := hF.trans (F_Memory_lowestPlace_L4_s fb x1 k4 v3 v2)
      refine lv_iload_n hx hb d_Memory_lowestPlace_4 rfl (lv_at hl 0 rfl) ?_
      refine lv_aload_n hx hb d_Memory_lowestPlace_5 rfl (lv_at hl 2 rfl) ?_
      refine va_get (D := D) (v := .ref ab) (C := "ColonMachine$Memory") (T := T_Memory) (N := 3) hx hb hT i_Memory hown hK hP 0 rfl rfl 1 (by decide) (hT _ fl_Memory_13) (fun _ h9 => h9) rfl d_Memory_lowestPlace_6 ?_
      refine va_alen (v := 600) hx hb hK hP 1 0 rfl rfl rfl d_Memory_lowestPlace_9 ?_
      refine lv_icmp_ge (tgt := 51) hx hb d_Memory_lowestPlace_10 (by decide) (fun c1 => ?_) (fun c1 => ?_)
      · have hF := hF.trans (if_pos c1)
        refine lv_iconst (v := 0) hx hb d_Memory_lowestPlace_51 (by decide) ?_
        exact W.iret (v := 0) hx hb hr (fun t ht hW => ⟨⟨_, (), rfl, ⟨hF.symm, trivial⟩, ⟨by rw [ht]; exact hP, va_K.moved hW.alike hK, hD⟩⟩, hS.F ht⟩) hS.2.2 d_Memory_lowestPlace_52
      · have hF := hF.trans (if_neg c1)
        refine lv_aload_n hx hb d_Memory_lowestPlace_13 rfl (lv_at hl 2 rfl) ?_
        refine va_get (D := D) (v := .ref ab) (C := "ColonMachine$Memory") (T := T_Memory) (N := 3) hx hb hT i_Memory hown hK hP 0 rfl rfl 1 (by decide) (hT _ fl_Memory_13) (fun _ h9 => h9) rfl d_Memory_lowestPlace_14 ?_
        refine lv_iload_n hx hb d_Memory_lowestPlace_17 rfl (lv_at hl 0 rfl) ?_
        refine va_iald hx hb hK hP 1 0 rfl rfl (by have := ti_lo v3; have := ti_hi v3; have := ti_lo he; have := ti_hi he; have t600 : Int32.toInt 600 = 600 := rfl; have t0 : Int32.toInt 0 = 0 := rfl; rw [vp_in_iff]; (try simp only [true_or, or_true, true_and, and_true, z_tn, CellsOk, CallsOk, TextOk, MemOk, OutOk, Int32.lt_iff_toInt_lt, Int32.le_iff_toInt_le, ← Int32.toInt_inj, Int32.toInt_add, Int32.toInt_sub, Int32.toInt_mul, Int32.toInt_neg, zbm, zbm', t600, t0] at c1 hi hw ⊢) <;> omega) d_Memory_lowestPlace_18 ?_
        refine lv_if_ne (tgt := 28) hx hb d_Memory_lowestPlace_19 (by decide) (fun c2 => ?_) (fun c2 => ?_)
        · have hF := hF.trans (if_neg c2)
          refine lv_iconst (v := 0) hx hb d_Memory_lowestPlace_28 (by decide) ?_
          refine lv_istore_n (lv' := [(2, .int 0), (3, .int v3), (0, .ref h), (1, .int x1)]) hx hb d_Memory_lowestPlace_29 rfl hl (by decide) rfl (fun ls hl => ?_)
          refine lv_iload_n hx hb d_Memory_lowestPlace_30 rfl (lv_at hl 0 rfl) ?_
          refine lv_iload_n hx hb d_Memory_lowestPlace_31 rfl (lv_at hl 3 rfl) ?_
          refine lv_icmp_ne (tgt := 45) hx hb d_Memory_lowestPlace_32 (by decide) (fun c3 => ?_) (fun c3 => ?_)
          · have hF := hF.trans (if_neg c3)
            refine lv_iinc (v := v3 + 1) (lv' := [(3, .int (v3 + 1)), (2, .int 0), (0, .ref h), (1, .int x1)]) hx hb d_Memory_lowestPlace_45 hl (k := 1) rfl rfl (by decide) rfl (fun ls hl => ?_)
            refine lv_goto (tgt := 4) hx hb d_Memory_lowestPlace_48 (by decide) ?_
            exact ih (v3 + 1) 0 (by have := ti_lo v3; have := ti_hi v3; have := ti_lo he; have := ti_hi he; have := ti_lo x1; have := ti_hi x1; have t600 : Int32.toInt 600 = 600 := rfl; have t1 : Int32.toInt 1 = 1 := rfl; have t0 : Int32.toInt 0 = 0 := rfl; (try simp only [true_or, or_true, true_and, and_true, z_tn, CellsOk, CallsOk, TextOk, MemOk, OutOk, Int32.lt_iff_toInt_lt, Int32.le_iff_toInt_le, ← Int32.toInt_inj, Int32.toInt_add, Int32.toInt_sub, Int32.toInt_mul, Int32.toInt_neg, zbm, zbm', t600, t1, t0] at c1 c2 c3 hi hw hk ⊢) <;> omega) (by have := ti_lo v3; have := ti_hi v3; have := ti_lo he; have := ti_hi he; have := ti_lo x1; have := ti_hi x1; have t0 : Int32.toInt 0 = 0 := rfl; have t1 : Int32.toInt 1 = 1 := rfl; have t600 : Int32.toInt 600 = 600 := rfl; (try simp only [true_or, or_true, true_and, and_true, z_tn, CellsOk, CallsOk, TextOk, MemOk, OutOk, Int32.lt_iff_toInt_lt, Int32.le_iff_toInt_le, ← Int32.toInt_inj, Int32.toInt_add, Int32.toInt_sub, Int32.toInt_mul, Int32.toInt_neg, zbm, zbm', t0, t1, t600] at c1 c2 c3 hi hw ⊢) <;> omega) _ _ _ hP hD hS (lv_sub hl [0, 1, 2, 3] rfl) hF
          · have hF := hF.trans (if_pos c3)
            refine lv_sipush (v := 400) hx hb d_Memory_lowestPlace_35 (by decide) ?_
            refine lv_iload_n hx hb d_Memory_lowestPlace_38 rfl (lv_at hl 1 rfl) ?_
            refine lv_iadd hx hb d_Memory_lowestPlace_39 ?_
            refine lv_iconst (v := 1) hx hb d_Memory_lowestPlace_40 (by decide) ?_
            refine lv_iadd hx hb d_Memory_lowestPlace_41 ?_
            refine lv_iload_n hx hb d_Memory_lowestPlace_42 rfl (lv_at hl 3 rfl) ?_
            refine lv_isub hx hb d_Memory_lowestPlace_43 ?_
            exact W.iret (v := ((400 + v3) + 1) - x1) hx hb hr (fun t ht hW => ⟨⟨_, (), rfl, ⟨hF.symm, trivial⟩, ⟨by rw [ht]; exact hP, va_K.moved hW.alike hK, hD⟩⟩, hS.F ht⟩) hS.2.2 d_Memory_lowestPlace_44
        · have hF := hF.trans (if_pos c2)
          refine lv_iload_n hx hb d_Memory_lowestPlace_22 rfl (lv_at hl 1 rfl) ?_
          refine lv_iconst (v := 1) hx hb d_Memory_lowestPlace_23 (by decide) ?_
          refine lv_iadd hx hb d_Memory_lowestPlace_24 ?_
          refine lv_goto (tgt := 29) hx hb d_Memory_lowestPlace_25 (by decide) ?_
          refine lv_istore_n (lv' := [(2, .int (v2 + 1)), (3, .int v3), (0, .ref h), (1, .int x1)]) hx hb d_Memory_lowestPlace_29 rfl hl (by decide) rfl (fun ls hl => ?_)
          refine lv_iload_n hx hb d_Memory_lowestPlace_30 rfl (lv_at hl 0 rfl) ?_
          refine lv_iload_n hx hb d_Memory_lowestPlace_31 rfl (lv_at hl 3 rfl) ?_
          refine lv_icmp_ne (tgt := 45) hx hb d_Memory_lowestPlace_32 (by decide) (fun c4 => ?_) (fun c4 => ?_)
          · have hF := hF.trans (if_neg c4)
            refine lv_iinc (v := v3 + 1) (lv' := [(3, .int (v3 + 1)), (2, .int (v2 + 1)), (0, .ref h), (1, .int x1)]) hx hb d_Memory_lowestPlace_45 hl (k := 1) rfl rfl (by decide) rfl (fun ls hl => ?_)
            refine lv_goto (tgt := 4) hx hb d_Memory_lowestPlace_48 (by decide) ?_
            exact ih (v3 + 1) (v2 + 1) (by have := ti_lo v3; have := ti_hi v3; have := ti_lo he; have := ti_hi he; have := ti_lo v2; have := ti_hi v2; have := ti_lo x1; have := ti_hi x1; have t600 : Int32.toInt 600 = 600 := rfl; have t1 : Int32.toInt 1 = 1 := rfl; have t0 : Int32.toInt 0 = 0 := rfl; (try simp only [true_or, or_true, true_and, and_true, z_tn, CellsOk, CallsOk, TextOk, MemOk, OutOk, Int32.lt_iff_toInt_lt, Int32.le_iff_toInt_le, ← Int32.toInt_inj, Int32.toInt_add, Int32.toInt_sub, Int32.toInt_mul, Int32.toInt_neg, zbm, zbm', t600, t1, t0] at c1 c2 c4 hi hw hk ⊢) <;> omega) (by have := ti_lo v3; have := ti_hi v3; have := ti_lo he; have := ti_hi he; have := ti_lo v2; have := ti_hi v2; have := ti_lo x1; have := ti_hi x1; have t0 : Int32.toInt 0 = 0 := rfl; have t1 : Int32.toInt 1 = 1 := rfl; have t600 : Int32.toInt 600 = 600 := rfl; (try simp only [true_or, or_true, true_and, and_true, z_tn, CellsOk, CallsOk, TextOk, MemOk, OutOk, Int32.lt_iff_toInt_lt, Int32.le_iff_toInt_le, ← Int32.toInt_inj, Int32.toInt_add, Int32.toInt_sub, Int32.toInt_mul, Int32.toInt_neg, zbm, zbm', t0, t1, t600] at c1 c2 c4 hi hw ⊢) <;> omega) _ _ _ hP hD hS (lv_sub hl [0, 1, 2, 3] rfl) hF
          · have hF := hF.trans (if_pos c4)
            refine lv_sipush (v := 400) hx hb d_Memory_lowestPlace_35 (by decide) ?_
            refine lv_iload_n hx hb d_Memory_lowestPlace_38 rfl (lv_at hl 1 rfl) ?_
            refine lv_iadd hx hb d_Memory_lowestPlace_39 ?_
            refine lv_iconst (v := 1) hx hb d_Memory_lowestPlace_40 (by decide) ?_
            refine lv_iadd hx hb d_Memory_lowestPlace_41 ?_
            refine lv_iload_n hx hb d_Memory_lowestPlace_42 rfl (lv_at hl 3 rfl) ?_
            refine lv_isub hx hb d_Memory_lowestPlace_43 ?_
            exact W.iret (v := ((400 + v3) + 1) - x1) hx hb hr (fun t ht hW => ⟨⟨_, (), rfl, ⟨hF.symm, trivial⟩, ⟨by rw [ht]; exact hP, va_K.moved hW.alike hK, hD⟩⟩, hS.F ht⟩) hS.2.2 d_Memory_lowestPlace_44
  exact loop (((600 - (0 : Int32).toInt).toNat) + 1) 0 0 (Nat.lt_succ_self _) (by have := ti_lo he; have := ti_hi he; have t0 : Int32.toInt 0 = 0 := rfl; (try simp only [true_or, or_true, true_and, and_true, z_tn, CellsOk, CallsOk, TextOk, MemOk, OutOk, Int32.lt_iff_toInt_lt, Int32.le_iff_toInt_le, ← Int32.toInt_inj, Int32.toInt_add, Int32.toInt_sub, Int32.toInt_mul, Int32.toInt_neg, zbm, zbm', t0] at hi ⊢) <;> omega) _ _ _ hP hD hS (lv_sub hl [0, 1, 2, 3] rfl) hF
def F_Memory_mark_L3 (x2 : Int32) (x3 : Int32) : Nat → (Int32) → (Nat → Int32) → (Nat → Int32)
  | 0, _, _ => (fun _ => 0)
  | k3 + 1, v4, z1_f => if x2 ≤ v4 then z1_f else (if v4 < 400 then (F_Memory_mark_L3 x2 x3 k3 (v4 + 1) z1_f) else (if 1000 ≤ v4 then (F_Memory_mark_L3 x2 x3 k3 (v4 + 1) z1_f) else (F_Memory_mark_L3 x2 x3 k3 (v4 + 1) (upd z1_f (v4 - 400).toNatClampNeg x3))))
theorem F_Memory_mark_L3_s (x2 : Int32) (x3 : Int32) (k3 : Nat) (v4 : Int32) (z1_f : Nat → Int32) : F_Memory_mark_L3 x2 x3 (k3 + 1) v4 z1_f = if x2 ≤ v4 then z1_f else (if v4 < 400 then (F_Memory_mark_L3 x2 x3 k3 (v4 + 1) z1_f) else (if 1000 ≤ v4 then (F_Memory_mark_L3 x2 x3 k3 (v4 + 1) z1_f) else (F_Memory_mark_L3 x2 x3 k3 (v4 + 1) (upd z1_f (v4 - 400).toNatClampNeg x3)))) := rfl
/-- the picture of ColonMachine$Memory.mark -/
def F_Memory_mark (fb : Nat → Int32) (x1 : Int32) (x2 : Int32) (x3 : Int32) : (Nat → Int32) := F_Memory_mark_L3 x2 x3 (((x2.toInt - x1.toInt).toNat) + 1) x1 fb
theorem F_Memory_mark_e (fb : Nat → Int32) (x1 : Int32) (x2 : Int32) (x3 : Int32) : F_Memory_mark fb x1 x2 x3 = F_Memory_mark_L3 x2 x3 (((x2.toInt - x1.toInt).toNat) + 1) x1 fb := rfl
set_option maxHeartbeats 4000000 in
set_option maxRecDepth 100000 in
theorem c_Memory_mark (l : Launch) (D : va_G) (cI cJ cZ cW cT : ClassId) (sz : Nat) (h : Nat) (ac : Nat) (ab : Nat) (he : Int32) (fb : Nat → Int32) (x1 : Int32) (x2 : Int32) (x3 : Int32) (hi : MemOk he) : Met l y_Memory_mark w_Memory_mark ({ frames := 0, cells := 0, slots := 0, locals := 0 }) (va_Pc [.ref h, .int x1, .int x2, .int x3] (zP D classes (TY cI cJ cZ cW cT) [(h, .inr (4, [.ref ac, .ref ab, .int he])), (ab, .inl (cI, 600, .inl fb))] sz)) (va_Qv (fun u : (Nat → Int32) => u = F_Memory_mark fb x1 x2 x3 ∧ (True)) (fun u => zB D classes (TY cI cJ cZ cW cT) (va_A [(h, .inr (4, [.ref ac, .ref ab, .int he])), (ab, .inl (cI, 600, .inl fb))] sz) [(h, .inr (4, [.ref ac, .ref ab, .int he])), (ab, .inl (cI, 600, .inl u))]) (va_A [(h, .inr (4, [.ref ac, .ref ab, .int he])), (ab, .inl (cI, 600, .inl fb))] sz)) 0 0 (va_A [(h, .inr (4, [.ref ac, .ref ab, .int he])), (ab, .inl (cI, 600, .inl fb))] sz) := by
  refine Met.ofW (cc := b_Memory_mark) (maxL := 5) (ret := none) (by decide) rfl ?_
  intro p e s m args below meth c s₁ B hml hv
  obtain ⟨rfl, hsz, hP, hK, hD0, hE⟩ := hv
  have hx := B.exec
  have hb := B.bytes
  have hr := B.returns
  have hts := atoms_spec (ws := w_Memory_mark) B.pre
  have hT : ∀ w ∈ TB, w.before _ s = true := fun w h => hts w (List.mem_cons_of_mem _ h)
  have hown : s.vm.findClass "ColonMachine$Memory" = some m.cls := findClass_of_methodNamed B.named
  have hlocks := B.notSynchronized
  subst hsz
  have hD := hD0.self (sz := s.heap.size)
  generalize hAe : va_A [(h, .inr (4, [.ref ac, .ref ab, .int he])), (ab, .inl (cI, 600, .inl fb))] s.heap.size = A at hD hE ⊢
  have hA : ∀ q : Nat, s.heap.size ≤ q → A q := fun q h => by rw [← hAe]; exact Or.inr h
  have hS : va_S A s.heap s.heap [] := va_S.rf
  have hl := lv_entry [.ref h, .int x1, .int x2, .int x3] (n := 5) (Nat.le_of_ble_eq_true rfl)
  rw [lg_entry_eq]
  generalize (lg_sl [.ref h, .int x1, .int x2, .int x3] ++ List.replicate (5 - (lg_sl [.ref h, .int x1, .int x2, .int x3]).length) Slot.unset).toArray = ls at hl ⊢
  have hl : lv_has ls 5 [(0, .ref h), (1, .int x1), (2, .int x2), (3, .int x3)] := hl
  have hF := F_Memory_mark_e fb x1 x2 x3
  refine lv_iload_n hx hb d_Memory_mark_0 rfl (lv_at hl 1 rfl) ?_
  refine lv_istore (lv' := [(4, .int x1), (0, .ref h), (1, .int x1), (2, .int x2), (3, .int x3)]) hx hb d_Memory_mark_1 hl (by decide) rfl (fun ls hl => ?_)
  have loop : ∀ (k3 : Nat) (v4 : Int32) (z1_f : Nat → Int32) (hk : (x2.toInt - v4.toInt).toNat < k3)  (H : Heap) (locs : List Loc) (ls : Array Slot) (hP : va_P D classes [(h, .inr (4, [.ref ac, .ref ab, .int he])), (ab, .inl (cI, 600, .inl z1_f))] H) (hD : va_D A [(h, .inr (4, [.ref ac, .ref ab, .int he])), (ab, .inl (cI, 600, .inl z1_f))]) (hS : va_S A s.heap H locs) (hl : lv_has ls 5 [(4, .int v4), (0, .ref h), (1, .int x1), (2, .int x2), (3, .int x3)]) (hF : F_Memory_mark fb x1 x2 x3 = F_Memory_mark_L3 x2 x3 k3 v4 z1_f), W p l e (headSpec w_Memory_mark ({ frames := 0, cells := 0, slots := 0, locals := 0 })).room s m (List.toArray [.ref h, .int x1, .int x2, .int x3]) below meth c H locs 0 0 (MQ below (va_Qv (fun u : (Nat → Int32) => u = F_Memory_mark fb x1 x2 x3 ∧ (True)) (fun u => zB D classes (TY cI cJ cZ cW cT) A [(h, .inr (4, [.ref ac, .ref ab, .int he])), (ab, .inl (cI, 600, .inl u))]) A) (List.toArray [.ref h, .int x1, .int x2, .int x3]) s 0 0 A) (F0 m 3 ls []) := by
    intro k3
    induction k3 with
    | zero => intro v4 z1_f hk; exact absurd hk (Nat.not_lt_zero _)
    | succ k3 ih =>
      intro v4 z1_f hk  H locs ls hP hD hS hl hF
      have hF := hF.trans (F_Memory_mark_L3_s x2 x3 k3 v4 z1_f)
      refine lv_iload hx hb d_Memory_mark_3 (lv_at hl 0 rfl) ?_
      refine lv_iload_n hx hb d_Memory_mark_5 rfl (lv_at hl 3 rfl) ?_
      refine lv_icmp_ge (tgt := 43) hx hb d_Memory_mark_6 (by decide) (fun c1 => ?_) (fun c1 => ?_)
      · have hF := hF.trans (if_pos c1)
        exact W.vret hx hb hr (fun t ht hW => ⟨⟨_, rfl, ⟨hF.symm, trivial⟩, ⟨by rw [ht]; exact hP, va_K.moved hW.alike hK, hD⟩⟩, hS.F ht⟩) hS.2.2 d_Memory_mark_43
      · have hF := hF.trans (if_neg c1)
        refine lv_iload hx hb d_Memory_mark_9 (lv_at hl 0 rfl) ?_
        refine lv_sipush (v := 400) hx hb d_Memory_mark_11 (by decide) ?_
        refine lv_icmp_lt (tgt := 37) hx hb d_Memory_mark_14 (by decide) (fun c2 => ?_) (fun c2 => ?_)
        · have hF := hF.trans (if_pos c2)
          refine lv_iinc (v := v4 + 1) (lv' := [(4, .int (v4 + 1)), (0, .ref h), (1, .int x1), (2, .int x2), (3, .int x3)]) hx hb d_Memory_mark_37 hl (k := 0) rfl rfl (by decide) rfl (fun ls hl => ?_)
          refine lv_goto (tgt := 3) hx hb d_Memory_mark_40 (by decide) ?_
          exact ih (v4 + 1) z1_f (by have := ti_lo v4; have := ti_hi v4; have := ti_lo he; have := ti_hi he; have := ti_lo x2; have := ti_hi x2; have t1 : Int32.toInt 1 = 1 := rfl; have t400 : Int32.toInt 400 = 400 := rfl; (try simp only [true_or, or_true, true_and, and_true, z_tn, CellsOk, CallsOk, TextOk, MemOk, OutOk, Int32.lt_iff_toInt_lt, Int32.le_iff_toInt_le, ← Int32.toInt_inj, Int32.toInt_add, Int32.toInt_sub, Int32.toInt_mul, Int32.toInt_neg, zbm, zbm', t1, t400] at c1 c2 hi hk ⊢) <;> omega)  _ _ _ hP hD hS (lv_sub hl [0, 1, 2, 3, 4] rfl) hF
        · have hF := hF.trans (if_neg c2)
          refine lv_iload hx hb d_Memory_mark_17 (lv_at hl 0 rfl) ?_
          refine lv_sipush (v := 1000) hx hb d_Memory_mark_19 (by decide) ?_
          refine lv_icmp_ge (tgt := 37) hx hb d_Memory_mark_22 (by decide) (fun c3 => ?_) (fun c3 => ?_)
          · have hF := hF.trans (if_pos c3)
            refine lv_iinc (v := v4 + 1) (lv' := [(4, .int (v4 + 1)), (0, .ref h), (1, .int x1), (2, .int x2), (3, .int x3)]) hx hb d_Memory_mark_37 hl (k := 0) rfl rfl (by decide) rfl (fun ls hl => ?_)
            refine lv_goto (tgt := 3) hx hb d_Memory_mark_40 (by decide) ?_
            exact ih (v4 + 1) z1_f (by have := ti_lo v4; have := ti_hi v4; have := ti_lo he; have := ti_hi he; have := ti_lo x2; have := ti_hi x2; have t1 : Int32.toInt 1 = 1 := rfl; have t400 : Int32.toInt 400 = 400 := rfl; have t1000 : Int32.toInt 1000 = 1000 := rfl; (try simp only [true_or, or_true, true_and, and_true, z_tn, CellsOk, CallsOk, TextOk, MemOk, OutOk, Int32.lt_iff_toInt_lt, Int32.le_iff_toInt_le, ← Int32.toInt_inj, Int32.toInt_add, Int32.toInt_sub, Int32.toInt_mul, Int32.toInt_neg, zbm, zbm', t1, t400, t1000] at c1 c2 c3 hi hk ⊢) <;> omega)  _ _ _ hP hD hS (lv_sub hl [0, 1, 2, 3, 4] rfl) hF
          · have hF := hF.trans (if_neg c3)
            refine lv_aload_n hx hb d_Memory_mark_25 rfl (lv_at hl 1 rfl) ?_
            refine va_get (D := D) (v := .ref ab) (C := "ColonMachine$Memory") (T := T_Memory) (N := 3) hx hb hT i_Memory hown hK hP 0 rfl rfl 1 (by decide) (hT _ fl_Memory_13) (fun _ h9 => h9) rfl d_Memory_mark_26 ?_
            refine lv_iload hx hb d_Memory_mark_29 (lv_at hl 0 rfl) ?_
            refine lv_sipush (v := 400) hx hb d_Memory_mark_31 (by decide) ?_
            refine lv_isub hx hb d_Memory_mark_34 ?_
            refine lv_iload_n hx hb d_Memory_mark_35 rfl (lv_at hl 4 rfl) ?_
            refine va_iast hx hb hK hP hD hS 1 0 rfl rfl (by have := ti_lo v4; have := ti_hi v4; have := ti_lo he; have := ti_hi he; have := ti_lo x2; have := ti_hi x2; have t400 : Int32.toInt 400 = 400 := rfl; have t600 : Int32.toInt 600 = 600 := rfl; have t1000 : Int32.toInt 1000 = 1000 := rfl; rw [vp_in_iff]; (try simp only [true_or, or_true, true_and, and_true, z_tn, CellsOk, CallsOk, TextOk, MemOk, OutOk, Int32.lt_iff_toInt_lt, Int32.le_iff_toInt_le, ← Int32.toInt_inj, Int32.toInt_add, Int32.toInt_sub, Int32.toInt_mul, Int32.toInt_neg, zbm, zbm', t400, t600, t1000] at c1 c2 c3 hi ⊢) <;> omega) d_Memory_mark_36 (fun H locs hP hD hS => ?_)
            have hP : va_P D classes [(h, .inr (4, [.ref ac, .ref ab, .int he])), (ab, .inl (cI, 600, .inl (upd z1_f (v4 - 400).toNatClampNeg x3)))] H := hP
            have hD : va_D A [(h, .inr (4, [.ref ac, .ref ab, .int he])), (ab, .inl (cI, 600, .inl (upd z1_f (v4 - 400).toNatClampNeg x3)))] := hD
            refine lv_iinc (v := v4 + 1) (lv' := [(4, .int (v4 + 1)), (0, .ref h), (1, .int x1), (2, .int x2), (3, .int x3)]) hx hb d_Memory_mark_37 hl (k := 0) rfl rfl (by decide) rfl (fun ls hl => ?_)
            refine lv_goto (tgt := 3) hx hb d_Memory_mark_40 (by decide) ?_
            exact ih (v4 + 1) (upd z1_f (v4 - 400).toNatClampNeg x3) (by have := ti_lo v4; have := ti_hi v4; have := ti_lo he; have := ti_hi he; have := ti_lo x2; have := ti_hi x2; have t1 : Int32.toInt 1 = 1 := rfl; have t400 : Int32.toInt 400 = 400 := rfl; have t1000 : Int32.toInt 1000 = 1000 := rfl; (try simp only [true_or, or_true, true_and, and_true, z_tn, CellsOk, CallsOk, TextOk, MemOk, OutOk, Int32.lt_iff_toInt_lt, Int32.le_iff_toInt_le, ← Int32.toInt_inj, Int32.toInt_add, Int32.toInt_sub, Int32.toInt_mul, Int32.toInt_neg, zbm, zbm', t1, t400, t1000] at c1 c2 c3 hi hk ⊢) <;> omega)  _ _ _ hP hD hS (lv_sub hl [0, 1, 2, 3, 4] rfl) hF
  exact loop (((x2.toInt - x1.toInt).toNat) + 1) x1 fb (Nat.lt_succ_self _)  _ _ _ hP hD hS (lv_sub hl [0, 1, 2, 3, 4] rfl) hF
def F_Memory_clearCells_L2 (x2 : Int32) : Nat → (Int32) → (Nat → Int32) → (Nat → Int32)
  | 0, _, _ => (fun _ => 0)
  | k2 + 1, v3, z1_f => if x2 ≤ v3 then z1_f else (if v3 < 400 then (F_Memory_clearCells_L2 x2 k2 (v3 + 1) z1_f) else (if 1000 ≤ v3 then (F_Memory_clearCells_L2 x2 k2 (v3 + 1) z1_f) else (F_Memory_clearCells_L2 x2 k2 (v3 + 1) (upd z1_f v3.toNatClampNeg 0))))
theorem F_Memory_clearCells_L2_s (x2 : Int32) (k2 : Nat) (v3 : Int32) (z1_f : Nat → Int32) : F_Memory_clearCells_L2 x2 (k2 + 1) v3 z1_f = if x2 ≤ v3 then z1_f else (if v3 < 400 then (F_Memory_clearCells_L2 x2 k2 (v3 + 1) z1_f) else (if 1000 ≤ v3 then (F_Memory_clearCells_L2 x2 k2 (v3 + 1) z1_f) else (F_Memory_clearCells_L2 x2 k2 (v3 + 1) (upd z1_f v3.toNatClampNeg 0)))) := rfl
/-- the picture of ColonMachine$Memory.clearCells -/
def F_Memory_clearCells (fc : Nat → Int32) (x1 : Int32) (x2 : Int32) : (Nat → Int32) := F_Memory_clearCells_L2 x2 (((x2.toInt - x1.toInt).toNat) + 1) x1 fc
theorem F_Memory_clearCells_e (fc : Nat → Int32) (x1 : Int32) (x2 : Int32) : F_Memory_clearCells fc x1 x2 = F_Memory_clearCells_L2 x2 (((x2.toInt - x1.toInt).toNat) + 1) x1 fc := rfl
set_option maxHeartbeats 4000000 in
set_option maxRecDepth 100000 in
theorem c_Memory_clearCells (l : Launch) (D : va_G) (cI cJ cZ cW cT : ClassId) (sz : Nat) (h : Nat) (ac : Nat) (ab : Nat) (he : Int32) (fc : Nat → Int32) (x1 : Int32) (x2 : Int32) (hi : MemOk he) : Met l y_Memory_clearCells w_Memory_clearCells ({ frames := 0, cells := 0, slots := 0, locals := 0 }) (va_Pc [.ref h, .int x1, .int x2] (zP D classes (TY cI cJ cZ cW cT) [(h, .inr (4, [.ref ac, .ref ab, .int he])), (ac, .inl (cI, 1000, .inl fc))] sz)) (va_Qv (fun u : (Nat → Int32) => u = F_Memory_clearCells fc x1 x2 ∧ (True)) (fun u => zB D classes (TY cI cJ cZ cW cT) (va_A [(h, .inr (4, [.ref ac, .ref ab, .int he])), (ac, .inl (cI, 1000, .inl fc))] sz) [(h, .inr (4, [.ref ac, .ref ab, .int he])), (ac, .inl (cI, 1000, .inl u))]) (va_A [(h, .inr (4, [.ref ac, .ref ab, .int he])), (ac, .inl (cI, 1000, .inl fc))] sz)) 0 0 (va_A [(h, .inr (4, [.ref ac, .ref ab, .int he])), (ac, .inl (cI, 1000, .inl fc))] sz) := by
  refine Met.ofW (cc := b_Memory_clearCells) (maxL := 4) (ret := none) (by decide) rfl ?_
  intro p e s m args below meth c s₁ B hml hv
  obtain ⟨rfl, hsz, hP, hK, hD0, hE⟩ := hv
  have hx := B.exec
  have hb := B.bytes
  have hr := B.returns
  have hts := atoms_spec (ws := w_Memory_clearCells) B.pre
  have hT : ∀ w ∈ TB, w.before _ s = true := fun w h => hts w (List.mem_cons_of_mem _ h)
  have hown : s.vm.findClass "ColonMachine$Memory" = some m.cls := findClass_of_methodNamed B.named
  have hlocks := B.notSynchronized
  subst hsz
  have hD := hD0.self (sz := s.heap.size)
  generalize hAe : va_A [(h, .inr (4, [.ref ac, .ref ab, .int he])), (ac, .inl (cI, 1000, .inl fc))] s.heap.size = A at hD hE ⊢
  have hA : ∀ q : Nat, s.heap.size ≤ q → A q := fun q h => by rw [← hAe]; exact Or.inr h
  have hS : va_S A s.heap s.heap [] := va_S.rf
  have hl := lv_entry [.ref h, .int x1, .int x2] (n := 4) (Nat.le_of_ble_eq_true rfl)
  rw [lg_entry_eq]
  generalize (lg_sl [.ref h, .int x1, .int x2] ++ List.replicate (4 - (lg_sl [.ref h, .int x1, .int x2]).length) Slot.unset).toArray = ls at hl ⊢
  have hl : lv_has ls 4 [(0, .ref h), (1, .int x1), (2, .int x2)] := hl
  have hF := F_Memory_clearCells_e fc x1 x2
  refine lv_iload_n hx hb d_Memory_clearCells_0 rfl (lv_at hl 1 rfl) ?_
  refine lv_istore_n (lv' := [(3, .int x1), (0, .ref h), (1, .int x1), (2, .int x2)]) hx hb d_Memory_clearCells_1 rfl hl (by decide) rfl (fun ls hl => ?_)
  have loop : ∀ (k2 : Nat) (v3 : Int32) (z1_f : Nat → Int32) (hk : (x2.toInt - v3.toInt).toNat < k2)  (H : Heap) (locs : List Loc) (ls : Array Slot) (hP : va_P D classes [(h, .inr (4, [.ref ac, .ref ab, .int he])), (ac, .inl (cI, 1000, .inl z1_f))] H) (hD : va_D A [(h, .inr (4, [.ref ac, .ref ab, .int he])), (ac, .inl (cI, 1000, .inl z1_f))]) (hS : va_S A s.heap H locs) (hl : lv_has ls 4 [(3, .int v3), (0, .ref h), (1, .int x1), (2, .int x2)]) (hF : F_Memory_clearCells fc x1 x2 = F_Memory_clearCells_L2 x2 k2 v3 z1_f), W p l e (headSpec w_Memory_clearCells ({ frames := 0, cells := 0, slots := 0, locals := 0 })).room s m (List.toArray [.ref h, .int x1, .int x2]) below meth c H locs 0 0 (MQ below (va_Qv (fun u : (Nat → Int32) => u = F_Memory_clearCells fc x1 x2 ∧ (True)) (fun u => zB D classes (TY cI cJ cZ cW cT) A [(h, .inr (4, [.ref ac, .ref ab, .int he])), (ac, .inl (cI, 1000, .inl u))]) A) (List.toArray [.ref h, .int x1, .int x2]) s 0 0 A) (F0 m 2 ls []) := by
    intro k2
    induction k2 with
    | zero => intro v3 z1_f hk; exact absurd hk (Nat.not_lt_zero _)
    | succ k2 ih =>
      intro v3 z1_f hk  H locs ls hP hD hS hl hF
      have hF := hF.trans (F_Memory_clearCells_L2_s x2 k2 v3 z1_f)
      refine lv_iload_n hx hb d_Memory_clearCells_2 rfl (lv_at hl 0 rfl) ?_
      refine lv_iload_n hx hb d_Memory_clearCells_3 rfl (lv_at hl 3 rfl) ?_
      refine lv_icmp_ge (tgt := 34) hx hb d_Memory_clearCells_4 (by decide) (fun c1 => ?_) (fun c1 => ?_)
      · have hF := hF.trans (if_pos c1)
        exact W.vret hx hb hr (fun t ht hW => ⟨⟨_, rfl, ⟨hF.symm, trivial⟩, ⟨by rw [ht]; exact hP, va_K.moved hW.alike hK, hD⟩⟩, hS.F ht⟩) hS.2.2 d_Memory_clearCells_34
      · have hF := hF.trans (if_neg c1)
        refine lv_iload_n hx hb d_Memory_clearCells_7 rfl (lv_at hl 0 rfl) ?_
        refine lv_sipush (v := 400) hx hb d_Memory_clearCells_8 (by decide) ?_
        refine lv_icmp_lt (tgt := 28) hx hb d_Memory_clearCells_11 (by decide) (fun c2 => ?_) (fun c2 => ?_)
        · have hF := hF.trans (if_pos c2)
          refine lv_iinc (v := v3 + 1) (lv' := [(3, .int (v3 + 1)), (0, .ref h), (1, .int x1), (2, .int x2)]) hx hb d_Memory_clearCells_28 hl (k := 0) rfl rfl (by decide) rfl (fun ls hl => ?_)
          refine lv_goto (tgt := 2) hx hb d_Memory_clearCells_31 (by decide) ?_
          exact ih (v3 + 1) z1_f (by have := ti_lo v3; have := ti_hi v3; have := ti_lo he; have := ti_hi he; have := ti_lo x2; have := ti_hi x2; have t1 : Int32.toInt 1 = 1 := rfl; have t400 : Int32.toInt 400 = 400 := rfl; (try simp only [true_or, or_true, true_and, and_true, z_tn, CellsOk, CallsOk, TextOk, MemOk, OutOk, Int32.lt_iff_toInt_lt, Int32.le_iff_toInt_le, ← Int32.toInt_inj, Int32.toInt_add, Int32.toInt_sub, Int32.toInt_mul, Int32.toInt_neg, zbm, zbm', t1, t400] at c1 c2 hi hk ⊢) <;> omega)  _ _ _ hP hD hS (lv_sub hl [0, 1, 2, 3] rfl) hF
        · have hF := hF.trans (if_neg c2)
          refine lv_iload_n hx hb d_Memory_clearCells_14 rfl (lv_at hl 0 rfl) ?_
          refine lv_sipush (v := 1000) hx hb d_Memory_clearCells_15 (by decide) ?_
          refine lv_icmp_ge (tgt := 28) hx hb d_Memory_clearCells_18 (by decide) (fun c3 => ?_) (fun c3 => ?_)
          · have hF := hF.trans (if_pos c3)
            refine lv_iinc (v := v3 + 1) (lv' := [(3, .int (v3 + 1)), (0, .ref h), (1, .int x1), (2, .int x2)]) hx hb d_Memory_clearCells_28 hl (k := 0) rfl rfl (by decide) rfl (fun ls hl => ?_)
            refine lv_goto (tgt := 2) hx hb d_Memory_clearCells_31 (by decide) ?_
            exact ih (v3 + 1) z1_f (by have := ti_lo v3; have := ti_hi v3; have := ti_lo he; have := ti_hi he; have := ti_lo x2; have := ti_hi x2; have t1 : Int32.toInt 1 = 1 := rfl; have t400 : Int32.toInt 400 = 400 := rfl; have t1000 : Int32.toInt 1000 = 1000 := rfl; (try simp only [true_or, or_true, true_and, and_true, z_tn, CellsOk, CallsOk, TextOk, MemOk, OutOk, Int32.lt_iff_toInt_lt, Int32.le_iff_toInt_le, ← Int32.toInt_inj, Int32.toInt_add, Int32.toInt_sub, Int32.toInt_mul, Int32.toInt_neg, zbm, zbm', t1, t400, t1000] at c1 c2 c3 hi hk ⊢) <;> omega)  _ _ _ hP hD hS (lv_sub hl [0, 1, 2, 3] rfl) hF
          · have hF := hF.trans (if_neg c3)
            refine lv_aload_n hx hb d_Memory_clearCells_21 rfl (lv_at hl 1 rfl) ?_
            refine va_get (D := D) (v := .ref ac) (C := "ColonMachine$Memory") (T := T_Memory) (N := 3) hx hb hT i_Memory hown hK hP 0 rfl rfl 0 (by decide) (hT _ fl_Memory_9) (fun _ h9 => h9) rfl d_Memory_clearCells_22 ?_
            refine lv_iload_n hx hb d_Memory_clearCells_25 rfl (lv_at hl 0 rfl) ?_
            refine lv_iconst (v := 0) hx hb d_Memory_clearCells_26 (by decide) ?_
            refine va_iast hx hb hK hP hD hS 1 0 rfl rfl (by have := ti_lo v3; have := ti_hi v3; have := ti_lo he; have := ti_hi he; have := ti_lo x2; have := ti_hi x2; have t1000 : Int32.toInt 1000 = 1000 := rfl; have t400 : Int32.toInt 400 = 400 := rfl; rw [vp_in_iff]; (try simp only [true_or, or_true, true_and, and_true, z_tn, CellsOk, CallsOk, TextOk, MemOk, OutOk, Int32.lt_iff_toInt_lt, Int32.le_iff_toInt_le, ← Int32.toInt_inj, Int32.toInt_add, Int32.toInt_sub, Int32.toInt_mul, Int32.toInt_neg, zbm, zbm', t1000, t400] at c1 c2 c3 hi ⊢) <;> omega) d_Memory_clearCells_27 (fun H locs hP hD hS => ?_)
            have hP : va_P D classes [(h, .inr (4, [.ref ac, .ref ab, .int he])), (ac, .inl (cI, 1000, .inl (upd z1_f v3.toNatClampNeg 0)))] H := hP
            have hD : va_D A [(h, .inr (4, [.ref ac, .ref ab, .int he])), (ac, .inl (cI, 1000, .inl (upd z1_f v3.toNatClampNeg 0)))] := hD
            refine lv_iinc (v := v3 + 1) (lv' := [(3, .int (v3 + 1)), (0, .ref h), (1, .int x1), (2, .int x2)]) hx hb d_Memory_clearCells_28 hl (k := 0) rfl rfl (by decide) rfl (fun ls hl => ?_)
            refine lv_goto (tgt := 2) hx hb d_Memory_clearCells_31 (by decide) ?_
            exact ih (v3 + 1) (upd z1_f v3.toNatClampNeg 0) (by have := ti_lo v3; have := ti_hi v3; have := ti_lo he; have := ti_hi he; have := ti_lo x2; have := ti_hi x2; have t1 : Int32.toInt 1 = 1 := rfl; have t400 : Int32.toInt 400 = 400 := rfl; have t1000 : Int32.toInt 1000 = 1000 := rfl; (try simp only [true_or, or_true, true_and, and_true, z_tn, CellsOk, CallsOk, TextOk, MemOk, OutOk, Int32.lt_iff_toInt_lt, Int32.le_iff_toInt_le, ← Int32.toInt_inj, Int32.toInt_add, Int32.toInt_sub, Int32.toInt_mul, Int32.toInt_neg, zbm, zbm', t1, t400, t1000] at c1 c2 c3 hi hk ⊢) <;> omega)  _ _ _ hP hD hS (lv_sub hl [0, 1, 2, 3] rfl) hF
  exact loop (((x2.toInt - x1.toInt).toNat) + 1) x1 fc (Nat.lt_succ_self _)  _ _ _ hP hD hS (lv_sub hl [0, 1, 2, 3] rfl) hF
/-- the picture of ColonMachine$Memory.allocate -/
def F_Memory_allocate (fc : Nat → Int32) (fb : Nat → Int32) (x1 : Int32) : Int32 × (Nat → Int32) × (Nat → Int32) := if 1 ≤ x1 then (bd (F_Memory_lowestPlace fb x1) (fun q2 => if q2 = 0 then (q2, (fc, fb)) else (bd (F_Memory_mark fb q2 (q2 + x1) q2) (fun q4 => bd (F_Memory_clearCells fc q2 (q2 + x1)) (fun q5 => (q2, (q5, q4))))))) else (0, (fc, fb))
theorem F_Memory_allocate_e (fc : Nat → Int32) (fb : Nat → Int32) (x1 : Int32) : F_Memory_allocate fc fb x1 = if 1 ≤ x1 then (bd (F_Memory_lowestPlace fb x1) (fun q2 => if q2 = 0 then (q2, (fc, fb)) else (bd (F_Memory_mark fb q2 (q2 + x1) q2) (fun q4 => bd (F_Memory_clearCells fc q2 (q2 + x1)) (fun q5 => (q2, (q5, q4))))))) else (0, (fc, fb)) := rfl
set_option maxHeartbeats 4000000 in
set_option maxRecDepth 100000 in
theorem c_Memory_allocate (l : Launch) (D : va_G) (cI cJ cZ cW cT : ClassId) (sz : Nat) (h : Nat) (ac : Nat) (ab : Nat) (he : Int32) (fc : Nat → Int32) (fb : Nat → Int32) (x1 : Int32) (hi : MemOk he) : Met l y_Memory_allocate w_Memory_allocate ({ frames := 1, cells := 0, slots := 0, locals := 24 }) (va_Pc [.ref h, .int x1] (zP D classes (TY cI cJ cZ cW cT) [(h, .inr (4, [.ref ac, .ref ab, .int he])), (ac, .inl (cI, 1000, .inl fc)), (ab, .inl (cI, 600, .inl fb))] sz)) (va_Qi (fun (r : Int32) (u : (Nat → Int32) × (Nat → Int32)) => (r, u) = F_Memory_allocate fc fb x1 ∧ (True)) (fun u => zB D classes (TY cI cJ cZ cW cT) (va_A [(h, .inr (4, [.ref ac, .ref ab, .int he])), (ac, .inl (cI, 1000, .inl fc)), (ab, .inl (cI, 600, .inl fb))] sz) [(h, .inr (4, [.ref ac, .ref ab, .int he])), (ac, .inl (cI, 1000, .inl u.1)), (ab, .inl (cI, 600, .inl u.2))]) (va_A [(h, .inr (4, [.ref ac, .ref ab, .int he])), (ac, .inl (cI, 1000, .inl fc)), (ab, .inl (cI, 600, .inl fb))] sz)) 0 0 (va_A [(h, .inr (4, [.ref ac, .ref ab, .int he])), (ac, .inl (cI, 1000, .inl fc)), (ab, .inl (cI, 600, .inl fb))] sz) := by
  refine Met.ofW (cc := b_Memory_allocate) (maxL := 3) (ret := (some .int)) (by decide) rfl ?_
  intro p e s m args below meth c s₁ B hml hv
  obtain ⟨rfl, hsz, hP, hK, hD0, hE⟩ := hv
  have hx := B.exec
  have hb := B.bytes
  have hr := B.returns
  have hts := atoms_spec (ws := w_Memory_allocate) B.pre
  have hT : ∀ w ∈ TB, w.before _ s = true := fun w h => hts w (List.mem_cons_of_mem _ h)
  have hown : s.vm.findClass "ColonMachine$Memory" = some m.cls := findClass_of_methodNamed B.named
  have hlocks := B.notSynchronized
  subst hsz
  have hD := hD0.self (sz := s.heap.size)
  generalize hAe : va_A [(h, .inr (4, [.ref ac, .ref ab, .int he])), (ac, .inl (cI, 1000, .inl fc)), (ab, .inl (cI, 600, .inl fb))] s.heap.size = A at hD hE ⊢
  have hA : ∀ q : Nat, s.heap.size ≤ q → A q := fun q h => by rw [← hAe]; exact Or.inr h
  have hS : va_S A s.heap s.heap [] := va_S.rf
  have hl := lv_entry [.ref h, .int x1] (n := 3) (Nat.le_of_ble_eq_true rfl)
  rw [lg_entry_eq]
  generalize (lg_sl [.ref h, .int x1] ++ List.replicate (3 - (lg_sl [.ref h, .int x1]).length) Slot.unset).toArray = ls at hl ⊢
  have hl : lv_has ls 3 [(0, .ref h), (1, .int x1)] := hl
  have hF := F_Memory_allocate_e fc fb x1
  refine lv_iload_n hx hb d_Memory_allocate_0 rfl (lv_at hl 1 rfl) ?_
  refine lv_iconst (v := 1) hx hb d_Memory_allocate_1 (by decide) ?_
  refine lv_icmp_ge (tgt := 9) hx hb d_Memory_allocate_2 (by decide) (fun c1 => ?_) (fun c1 => ?_)
  · have hF := hF.trans (if_pos c1)
    refine lv_aload_n hx hb d_Memory_allocate_9 rfl (lv_at hl 0 rfl) ?_
    refine lv_iload_n hx hb d_Memory_allocate_10 rfl (lv_at hl 1 rfl) ?_
    refine kN_pi (wr := [(ac, .inl (cI, 1000, .inl fc))]) (zV (wc := [(h, .inr (4, [.ref ac, .ref ab, .int he])), (ab, .inl (cI, 600, .inl fb))]) (As := [.int x1]) (rest := []) (st0 := [.int x1, .ref h]) ⟨hx, hb, hml, hown, hT⟩ (c_Memory_lowestPlace l D cI cJ cZ cW cT s.heap.size h ac ab he fb x1 hi) (cwV 1 hT (tbV ml_Memory_30 im_Memory_lowestPlace se_Memory_lowestPlace in_Memory co_Memory_lowestPlace) rfl rfl rfl v_Memory_lowestPlace ⟨Nat.le_of_ble_eq_true rfl, Nat.le_of_ble_eq_true rfl⟩) hK hE hP hD hS hA [0, 2] rfl rfl 0 rfl rfl rfl hl.1 rfl (Nat.le_of_ble_eq_true rfl) d_Memory_allocate_11 ⟨Nat.le_of_ble_eq_true rfl, Nat.le_of_ble_eq_true rfl⟩) hP hD hS hA [0, 2] [1] rfl rfl rfl (by decide) [1, 0, 2] rfl rfl (fun q2 H locs e2 k2 hP hD hS => ?_)
    have hP : va_P D classes [(h, .inr (4, [.ref ac, .ref ab, .int he])), (ac, .inl (cI, 1000, .inl fc)), (ab, .inl (cI, 600, .inl fb))] H := hP
    have hD : va_D A [(h, .inr (4, [.ref ac, .ref ab, .int he])), (ac, .inl (cI, 1000, .inl fc)), (ab, .inl (cI, 600, .inl fb))] := hD
    have hF := hF.trans (bd_e e2)
    refine lv_istore_n (lv' := [(2, .int q2), (0, .ref h), (1, .int x1)]) hx hb d_Memory_allocate_14 rfl hl (by decide) rfl (fun ls hl => ?_)
    refine lv_iload_n hx hb d_Memory_allocate_15 rfl (lv_at hl 0 rfl) ?_
    refine lv_if_eq (tgt := 36) hx hb d_Memory_allocate_16 (by decide) (fun c3 => ?_) (fun c3 => ?_)
    · have hF := hF.trans (if_pos c3)
      refine lv_iload_n hx hb d_Memory_allocate_36 rfl (lv_at hl 0 rfl) ?_
      exact W.iret (v := q2) hx hb hr (fun t ht hW => ⟨⟨_, _, rfl, ⟨hF.symm, trivial⟩, ⟨by rw [ht]; exact hP, va_K.moved hW.alike hK, hD⟩⟩, hS.F ht⟩) hS.2.2 d_Memory_allocate_37
    · have hF := hF.trans (if_neg c3)
      refine lv_aload_n hx hb d_Memory_allocate_19 rfl (lv_at hl 1 rfl) ?_
      refine lv_iload_n hx hb d_Memory_allocate_20 rfl (lv_at hl 0 rfl) ?_
      refine lv_iload_n hx hb d_Memory_allocate_21 rfl (lv_at hl 0 rfl) ?_
      refine lv_iload_n hx hb d_Memory_allocate_22 rfl (lv_at hl 2 rfl) ?_
      refine lv_iadd hx hb d_Memory_allocate_23 ?_
      refine lv_iload_n hx hb d_Memory_allocate_24 rfl (lv_at hl 0 rfl) ?_
      refine kN_sv (wr := [(ac, .inl (cI, 1000, .inl fc))]) (fun u : (Nat → Int32) => [(h, .inr (4, [.ref ac, .ref ab, .int he])), (ac, .inl (cI, 1000, .inl fc)), (ab, .inl (cI, 600, .inl u))]) (zV (wc := [(h, .inr (4, [.ref ac, .ref ab, .int he])), (ab, .inl (cI, 600, .inl fb))]) (As := [.int q2, .int (q2 + x1), .int q2]) (rest := []) (st0 := [.int q2, .int (q2 + x1), .int q2, .ref h]) ⟨hx, hb, hml, hown, hT⟩ (c_Memory_mark l D cI cJ cZ cW cT H.size h ac ab he fb q2 (q2 + x1) q2 hi) (cwV 3 hT (tbV ml_Memory_34 im_Memory_mark se_Memory_mark in_Memory co_Memory_mark) rfl rfl rfl v_Memory_mark ⟨Nat.le_of_ble_eq_true rfl, Nat.le_of_ble_eq_true rfl⟩) hK hE hP hD hS hA [0, 2] rfl rfl 0 rfl rfl rfl hl.1 rfl (Nat.le_of_ble_eq_true rfl) d_Memory_allocate_25 ⟨Nat.le_of_ble_eq_true rfl, Nat.le_of_ble_eq_true rfl⟩) hP hD hS hA [0, 2] [1] rfl rfl rfl (by decide) [1, 0, 2] rfl (fun u => rfl) (fun q4 H locs e4 k4 hP hD hS => ?_)
      have hP : va_P D classes [(h, .inr (4, [.ref ac, .ref ab, .int he])), (ac, .inl (cI, 1000, .inl fc)), (ab, .inl (cI, 600, .inl q4))] H := hP
      have hD : va_D A [(h, .inr (4, [.ref ac, .ref ab, .int he])), (ac, .inl (cI, 1000, .inl fc)), (ab, .inl (cI, 600, .inl q4))] := hD
      have hF := hF.trans (bd_e e4)
      refine lv_aload_n hx hb d_Memory_allocate_28 rfl (lv_at hl 1 rfl) ?_
      refine lv_iload_n hx hb d_Memory_allocate_29 rfl (lv_at hl 0 rfl) ?_
      refine lv_iload_n hx hb d_Memory_allocate_30 rfl (lv_at hl 0 rfl) ?_
      refine lv_iload_n hx hb d_Memory_allocate_31 rfl (lv_at hl 2 rfl) ?_
      refine lv_iadd hx hb d_Memory_allocate_32 ?_
      refine kN_sv (wr := [(ab, .inl (cI, 600, .inl q4))]) (fun u : (Nat → Int32) => [(h, .inr (4, [.ref ac, .ref ab, .int he])), (ac, .inl (cI, 1000, .inl u)), (ab, .inl (cI, 600, .inl q4))]) (zV (wc := [(h, .inr (4, [.ref ac, .ref ab, .int he])), (ac, .inl (cI, 1000, .inl fc))]) (As := [.int q2, .int (q2 + x1)]) (rest := []) (st0 := [.int (q2 + x1), .int q2, .ref h]) ⟨hx, hb, hml, hown, hT⟩ (c_Memory_clearCells l D cI cJ cZ cW cT H.size h ac ab he fc q2 (q2 + x1) hi) (cwV 2 hT (tbV ml_Memory_38 im_Memory_clearCells se_Memory_clearCells in_Memory co_Memory_clearCells) rfl rfl rfl v_Memory_clearCells ⟨Nat.le_of_ble_eq_true rfl, Nat.le_of_ble_eq_true rfl⟩) hK hE hP hD hS hA [0, 1] rfl rfl 0 rfl rfl rfl hl.1 rfl (Nat.le_of_ble_eq_true rfl) d_Memory_allocate_33 ⟨Nat.le_of_ble_eq_true rfl, Nat.le_of_ble_eq_true rfl⟩) hP hD hS hA [0, 1] [2] rfl rfl rfl (by decide) [1, 2, 0] rfl (fun u => rfl) (fun q5 H locs e5 k5 hP hD hS => ?_)
      have hP : va_P D classes [(h, .inr (4, [.ref ac, .ref ab, .int he])), (ac, .inl (cI, 1000, .inl q5)), (ab, .inl (cI, 600, .inl q4))] H := hP
      have hD : va_D A [(h, .inr (4, [.ref ac, .ref ab, .int he])), (ac, .inl (cI, 1000, .inl q5)), (ab, .inl (cI, 600, .inl q4))] := hD
      have hF := hF.trans (bd_e e5)
      refine lv_iload_n hx hb d_Memory_allocate_36 rfl (lv_at hl 0 rfl) ?_
      exact W.iret (v := q2) hx hb hr (fun t ht hW => ⟨⟨_, _, rfl, ⟨hF.symm, trivial⟩, ⟨by rw [ht]; exact hP, va_K.moved hW.alike hK, hD⟩⟩, hS.F ht⟩) hS.2.2 d_Memory_allocate_37
  · have hF := hF.trans (if_neg c1)
    refine lv_iconst (v := 0) hx hb d_Memory_allocate_5 (by decide) ?_
    refine lv_goto (tgt := 14) hx hb d_Memory_allocate_6 (by decide) ?_
    refine lv_istore_n (lv' := [(2, .int 0), (0, .ref h), (1, .int x1)]) hx hb d_Memory_allocate_14 rfl hl (by decide) rfl (fun ls hl => ?_)
    refine lv_iload_n hx hb d_Memory_allocate_15 rfl (lv_at hl 0 rfl) ?_
    refine lv_if_eq (tgt := 36) hx hb d_Memory_allocate_16 (by decide) (fun c6 => ?_) (fun c6 => ?_)
    · refine lv_iload_n hx hb d_Memory_allocate_36 rfl (lv_at hl 0 rfl) ?_
      exact W.iret (v := 0) hx hb hr (fun t ht hW => ⟨⟨_, _, rfl, ⟨hF.symm, trivial⟩, ⟨by rw [ht]; exact hP, va_K.moved hW.alike hK, hD⟩⟩, hS.F ht⟩) hS.2.2 d_Memory_allocate_37
    · exact absurd c6 (by decide)
/-- the picture of ColonMachine$Memory.free -/
def F_Memory_free (fb : Nat → Int32) (x1 : Int32) : Int32 × (Nat → Int32) := bd (F_Memory_isBlock fb x1) (fun q1 => if q1 = 0 then (0, fb) else (bd (F_Memory_sizeOf fb x1) (fun q3 => bd (F_Memory_mark fb x1 (x1 + q3) 0) (fun q4 => (1, q4)))))
theorem F_Memory_free_e (fb : Nat → Int32) (x1 : Int32) : F_Memory_free fb x1 = bd (F_Memory_isBlock fb x1) (fun q1 => if q1 = 0 then (0, fb) else (bd (F_Memory_sizeOf fb x1) (fun q3 => bd (F_Memory_mark fb x1 (x1 + q3) 0) (fun q4 => (1, q4))))) := rfl
set_option maxHeartbeats 4000000 in
set_option maxRecDepth 100000 in
theorem c_Memory_free (l : Launch) (D : va_G) (cI cJ cZ cW cT : ClassId) (sz : Nat) (h : Nat) (ac : Nat) (ab : Nat) (he : Int32) (fb : Nat → Int32) (x1 : Int32) (hi : MemOk he) : Met l y_Memory_free w_Memory_free ({ frames := 1, cells := 0, slots := 0, locals := 24 }) (va_Pc [.ref h, .int x1] (zP D classes (TY cI cJ cZ cW cT) [(h, .inr (4, [.ref ac, .ref ab, .int he])), (ab, .inl (cI, 600, .inl fb))] sz)) (va_Qi (fun (r : Int32) (u : (Nat → Int32)) => (r, u) = F_Memory_free fb x1 ∧ ((r = 0 ∨ r = 1))) (fun u => zB D classes (TY cI cJ cZ cW cT) (va_A [(h, .inr (4, [.ref ac, .ref ab, .int he])), (ab, .inl (cI, 600, .inl fb))] sz) [(h, .inr (4, [.ref ac, .ref ab, .int he])), (ab, .inl (cI, 600, .inl u))]) (va_A [(h, .inr (4, [.ref ac, .ref ab, .int he])), (ab, .inl (cI, 600, .inl fb))] sz)) 0 0 (va_A [(h, .inr (4, [.ref ac, .ref ab, .int he])), (ab, .inl (cI, 600, .inl fb))] sz) := by
  refine Met.ofW (cc := b_Memory_free) (maxL := 2) (ret := (some .boolean)) (by decide) rfl ?_
  intro p e s m args below meth c s₁ B hml hv
  obtain ⟨rfl, hsz, hP, hK, hD0, hE⟩ := hv
  have hx := B.exec
  have hb := B.bytes
  have hr := B.returns
  have hts := atoms_spec (ws := w_Memory_free) B.pre
  have hT : ∀ w ∈ TB, w.before _ s = true := fun w h => hts w (List.mem_cons_of_mem _ h)
  have hown : s.vm.findClass "ColonMachine$Memory" = some m.cls := findClass_of_methodNamed B.named
  have hlocks := B.notSynchronized
  subst hsz
  have hD := hD0.self (sz := s.heap.size)
  generalize hAe : va_A [(h, .inr (4, [.ref ac, .ref ab, .int he])), (ab, .inl (cI, 600, .inl fb))] s.heap.size = A at hD hE ⊢
  have hA : ∀ q : Nat, s.heap.size ≤ q → A q := fun q h => by rw [← hAe]; exact Or.inr h
  have hS : va_S A s.heap s.heap [] := va_S.rf
  have hl := lv_entry [.ref h, .int x1] (n := 2) (Nat.le_of_ble_eq_true rfl)
  rw [lg_entry_eq]
  generalize (lg_sl [.ref h, .int x1] ++ List.replicate (2 - (lg_sl [.ref h, .int x1]).length) Slot.unset).toArray = ls at hl ⊢
  have hl : lv_has ls 2 [(0, .ref h), (1, .int x1)] := hl
  have hF := F_Memory_free_e fb x1
  refine lv_aload_n hx hb d_Memory_free_0 rfl (lv_at hl 0 rfl) ?_
  refine lv_iload_n hx hb d_Memory_free_1 rfl (lv_at hl 1 rfl) ?_
  refine kN_pi (wr := []) (zV (wc := [(h, .inr (4, [.ref ac, .ref ab, .int he])), (ab, .inl (cI, 600, .inl fb))]) (As := [.int x1]) (rest := []) (st0 := [.int x1, .ref h]) ⟨hx, hb, hml, hown, hT⟩ (c_Memory_isBlock l D cI cJ cZ cW cT s.heap.size h ac ab he fb x1 hi) (cwV 1 hT (tbV ml_Memory_42 im_Memory_isBlock se_Memory_isBlock in_Memory co_Memory_isBlock) rfl rfl rfl v_Memory_isBlock ⟨Nat.le_of_ble_eq_true rfl, Nat.le_of_ble_eq_true rfl⟩) hK hE hP hD hS hA [0, 1] rfl rfl 0 rfl rfl rfl hl.1 rfl (Nat.le_of_ble_eq_true rfl) d_Memory_free_2 ⟨Nat.le_of_ble_eq_true rfl, Nat.le_of_ble_eq_true rfl⟩) hP hD hS hA [0, 1] [] rfl rfl rfl (by decide) [0, 1] rfl rfl (fun q1 H locs e1 k1 hP hD hS => ?_)
  have hP : va_P D classes [(h, .inr (4, [.ref ac, .ref ab, .int he])), (ab, .inl (cI, 600, .inl fb))] H := hP
  have hD : va_D A [(h, .inr (4, [.ref ac, .ref ab, .int he])), (ab, .inl (cI, 600, .inl fb))] := hD
  have hF := hF.trans (bd_e e1)
  refine lv_if_ne (tgt := 10) hx hb d_Memory_free_5 (by decide) (fun c2 => ?_) (fun c2 => ?_)
  · have hF := hF.trans (if_neg c2)
    refine lv_aload_n hx hb d_Memory_free_10 rfl (lv_at hl 0 rfl) ?_
    refine lv_iload_n hx hb d_Memory_free_11 rfl (lv_at hl 1 rfl) ?_
    refine lv_iload_n hx hb d_Memory_free_12 rfl (lv_at hl 1 rfl) ?_
    refine lv_aload_n hx hb d_Memory_free_13 rfl (lv_at hl 0 rfl) ?_
    refine lv_iload_n hx hb d_Memory_free_14 rfl (lv_at hl 1 rfl) ?_
    refine kN_pi (wr := []) (zV (wc := [(h, .inr (4, [.ref ac, .ref ab, .int he])), (ab, .inl (cI, 600, .inl fb))]) (As := [.int x1]) (rest := [.int x1, .int x1, .ref h]) (st0 := [.int x1, .ref h, .int x1, .int x1, .ref h]) ⟨hx, hb, hml, hown, hT⟩ (c_Memory_sizeOf l D cI cJ cZ cW cT H.size h ac ab he fb x1 hi) (cwV 1 hT (tbV ml_Memory_45 im_Memory_sizeOf se_Memory_sizeOf in_Memory co_Memory_sizeOf) rfl rfl rfl v_Memory_sizeOf ⟨Nat.le_of_ble_eq_true rfl, Nat.le_of_ble_eq_true rfl⟩) hK hE hP hD hS hA [0, 1] rfl rfl 0 rfl rfl rfl hl.1 rfl (Nat.le_of_ble_eq_true rfl) d_Memory_free_15 ⟨Nat.le_of_ble_eq_true rfl, Nat.le_of_ble_eq_true rfl⟩) hP hD hS hA [0, 1] [] rfl rfl rfl (by decide) [0, 1] rfl rfl (fun q3 H locs e3 k3 hP hD hS => ?_)
    have hP : va_P D classes [(h, .inr (4, [.ref ac, .ref ab, .int he])), (ab, .inl (cI, 600, .inl fb))] H := hP
    have hD : va_D A [(h, .inr (4, [.ref ac, .ref ab, .int he])), (ab, .inl (cI, 600, .inl fb))] := hD
    have hF := hF.trans (bd_e e3)
    refine lv_iadd hx hb d_Memory_free_18 ?_
    refine lv_iconst (v := 0) hx hb d_Memory_free_19 (by decide) ?_
    refine kN_sv (wr := []) (fun u : (Nat → Int32) => [(h, .inr (4, [.ref ac, .ref ab, .int he])), (ab, .inl (cI, 600, .inl u))]) (zV (wc := [(h, .inr (4, [.ref ac, .ref ab, .int he])), (ab, .inl (cI, 600, .inl fb))]) (As := [.int x1, .int (x1 + q3), .int 0]) (rest := []) (st0 := [.int 0, .int (x1 + q3), .int x1, .ref h]) ⟨hx, hb, hml, hown, hT⟩ (c_Memory_mark l D cI cJ cZ cW cT H.size h ac ab he fb x1 (x1 + q3) 0 hi) (cwV 3 hT (tbV ml_Memory_34 im_Memory_mark se_Memory_mark in_Memory co_Memory_mark) rfl rfl rfl v_Memory_mark ⟨Nat.le_of_ble_eq_true rfl, Nat.le_of_ble_eq_true rfl⟩) hK hE hP hD hS hA [0, 1] rfl rfl 0 rfl rfl rfl hl.1 rfl (Nat.le_of_ble_eq_true rfl) d_Memory_free_20 ⟨Nat.le_of_ble_eq_true rfl, Nat.le_of_ble_eq_true rfl⟩) hP hD hS hA [0, 1] [] rfl rfl rfl (by decide) [0, 1] rfl (fun u => rfl) (fun q4 H locs e4 k4 hP hD hS => ?_)
    have hP : va_P D classes [(h, .inr (4, [.ref ac, .ref ab, .int he])), (ab, .inl (cI, 600, .inl q4))] H := hP
    have hD : va_D A [(h, .inr (4, [.ref ac, .ref ab, .int he])), (ab, .inl (cI, 600, .inl q4))] := hD
    have hF := hF.trans (bd_e e4)
    refine lv_iconst (v := 1) hx hb d_Memory_free_23 (by decide) ?_
    exact W.zret (v := 1) hx hb hr rfl (fun t ht hW => ⟨⟨_, _, rfl, ⟨hF.symm, (Or.inr rfl)⟩, ⟨by rw [ht]; exact hP, va_K.moved hW.alike hK, hD⟩⟩, hS.F ht⟩) hS.2.2 d_Memory_free_24
  · have hF := hF.trans (if_pos c2)
    refine lv_iconst (v := 0) hx hb d_Memory_free_8 (by decide) ?_
    exact W.zret (v := 0) hx hb hr rfl (fun t ht hW => ⟨⟨_, _, rfl, ⟨hF.symm, (Or.inl rfl)⟩, ⟨by rw [ht]; exact hP, va_K.moved hW.alike hK, hD⟩⟩, hS.F ht⟩) hS.2.2 d_Memory_free_9
def F_Memory_canGrow_L16 (fb : Nat → Int32) (x1 : Int32) (x3 : Int32) : Nat → (Int32) → Int32
  | 0, _ => 0
  | k16 + 1, v4 => if (x1 + x3) ≤ v4 then 1 else (if v4 < 400 then 0 else (if (fb (v4 - 400).toNatClampNeg) = 0 then (F_Memory_canGrow_L16 fb x1 x3 k16 (v4 + 1)) else 0))
theorem F_Memory_canGrow_L16_s (fb : Nat → Int32) (x1 : Int32) (x3 : Int32) (k16 : Nat) (v4 : Int32) : F_Memory_canGrow_L16 fb x1 x3 (k16 + 1) v4 = if (x1 + x3) ≤ v4 then 1 else (if v4 < 400 then 0 else (if (fb (v4 - 400).toNatClampNeg) = 0 then (F_Memory_canGrow_L16 fb x1 x3 k16 (v4 + 1)) else 0)) := rfl
/-- the picture of ColonMachine$Memory.canGrow -/
def F_Memory_canGrow (fb : Nat → Int32) (x1 : Int32) (x2 : Int32) (x3 : Int32) : Int32 := if (x1 + x3) ≤ 1000 then (F_Memory_canGrow_L16 fb x1 x3 ((((x1 + x3).toInt - (x1 + x2).toInt).toNat) + 1) (x1 + x2)) else 0
theorem F_Memory_canGrow_e (fb : Nat → Int32) (x1 : Int32) (x2 : Int32) (x3 : Int32) : F_Memory_canGrow fb x1 x2 x3 = if (x1 + x3) ≤ 1000 then (F_Memory_canGrow_L16 fb x1 x3 ((((x1 + x3).toInt - (x1 + x2).toInt).toNat) + 1) (x1 + x2)) else 0 := rfl
set_option maxHeartbeats 4000000 in
set_option maxRecDepth 100000 in
theorem c_Memory_canGrow (l : Launch) (D : va_G) (cI cJ cZ cW cT : ClassId) (sz : Nat) (h : Nat) (ac : Nat) (ab : Nat) (he : Int32) (fb : Nat → Int32) (x1 : Int32) (x2 : Int32) (x3 : Int32) (hi : MemOk he) : Met l y_Memory_canGrow w_Memory_canGrow ({ frames := 0, cells := 0, slots := 0, locals := 0 }) (va_Pc [.ref h, .int x1, .int x2, .int x3] (zP D classes (TY cI cJ cZ cW cT) [(h, .inr (4, [.ref ac, .ref ab, .int he])), (ab, .inl (cI, 600, .inl fb))] sz)) (va_Qi (fun (r : Int32) (_ : Unit) => r = F_Memory_canGrow fb x1 x2 x3 ∧ ((r = 0 ∨ r = 1))) (fun _ => zB D classes (TY cI cJ cZ cW cT) (va_A [(h, .inr (4, [.ref ac, .ref ab, .int he])), (ab, .inl (cI, 600, .inl fb))] sz) [(h, .inr (4, [.ref ac, .ref ab, .int he])), (ab, .inl (cI, 600, .inl fb))]) (va_A [(h, .inr (4, [.ref ac, .ref ab, .int he])), (ab, .inl (cI, 600, .inl fb))] sz)) 0 0 (va_A [(h, .inr (4, [.ref ac, .ref ab, .int he])), (ab, .inl (cI, 600, .inl fb))] sz) := by
  refine Met.ofW (cc := b_Memory_canGrow) (maxL := 5) (ret := (some .boolean)) (by decide) rfl ?_
  intro p e s m args below meth c s₁ B hml hv
  obtain ⟨rfl, hsz, hP, hK, hD0, hE⟩ := hv
  have hx := B.exec
  have hb := B.bytes
  have hr := B.returns
  have hts := atoms_spec (ws := w_Memory_canGrow) B.pre
  have hT : ∀ w ∈ TB, w.before _ s = true := fun w h => hts w (List.mem_cons_of_mem _ h)
  have hown : s.vm.findClass "ColonMachine$Memory" = some m.cls := findClass_of_methodNamed B.named
  have hlocks := B.notSynchronized
  subst hsz
  have hD := hD0.self (sz := s.heap.size)
  generalize hAe : va_A [(h, .inr (4, [.ref ac, .ref ab, .int he])), (ab, .inl (cI, 600, .inl fb))] s.heap.size = A at hD hE ⊢
  have hA : ∀ q : Nat, s.heap.size ≤ q → A q := fun q h => by rw [← hAe]; exact Or.inr h
  have hS : va_S A s.heap s.heap [] := va_S.rf
  have hl := lv_entry [.ref h, .int x1, .int x2, .int x3] (n := 5) (Nat.le_of_ble_eq_true rfl)
  rw [lg_entry_eq]
  generalize (lg_sl [.ref h, .int x1, .int x2, .int x3] ++ List.replicate (5 - (lg_sl [.ref h, .int x1, .int x2, .int x3]).length) Slot.unset).toArray = ls at hl ⊢
  have hl : lv_has ls 5 [(0, .ref h), (1, .int x1), (2, .int x2), (3, .int x3)] := hl
  have hF := F_Memory_canGrow_e fb x1 x2 x3
  refine lv_iload_n hx hb d_Memory_canGrow_0 rfl (lv_at hl 1 rfl) ?_
  refine lv_iload_n hx hb d_Memory_canGrow_1 rfl (lv_at hl 3 rfl) ?_
  refine lv_iadd hx hb d_Memory_canGrow_2 ?_
  refine lv_sipush (v := 1000) hx hb d_Memory_canGrow_3 (by decide) ?_
  refine lv_icmp_le (tgt := 11) hx hb d_Memory_canGrow_6 (by decide) (fun c1 => ?_) (fun c1 => ?_)
  · have hF := hF.trans (if_pos c1)
    refine lv_iload_n hx hb d_Memory_canGrow_11 rfl (lv_at hl 1 rfl) ?_
    refine lv_iload_n hx hb d_Memory_canGrow_12 rfl (lv_at hl 2 rfl) ?_
    refine lv_iadd hx hb d_Memory_canGrow_13 ?_
    refine lv_istore (lv' := [(4, .int (x1 + x2)), (0, .ref h), (1, .int x1), (2, .int x2), (3, .int x3)]) hx hb d_Memory_canGrow_14 hl (by decide) rfl (fun ls hl => ?_)
    have loop : ∀ (k16 : Nat) (v4 : Int32) (hk : ((x1 + x3).toInt - v4.toInt).toNat < k16)  (H : Heap) (locs : List Loc) (ls : Array Slot) (hP : va_P D classes [(h, .inr (4, [.ref ac, .ref ab, .int he])), (ab, .inl (cI, 600, .inl fb))] H) (hD : va_D A [(h, .inr (4, [.ref ac, .ref ab, .int he])), (ab, .inl (cI, 600, .inl fb))]) (hS : va_S A s.heap H locs) (hl : lv_has ls 5 [(4, .int v4), (0, .ref h), (1, .int x1), (2, .int x2), (3, .int x3)]) (hF : F_Memory_canGrow fb x1 x2 x3 = F_Memory_canGrow_L16 fb x1 x3 k16 v4), W p l e (headSpec w_Memory_canGrow ({ frames := 0, cells := 0, slots := 0, locals := 0 })).room s m (List.toArray [.ref h, .int x1, .int x2, .int x3]) below meth c H locs 0 0 (MQ below (va_Qi (fun (r : Int32) (_ : Unit) => r = F_Memory_canGrow fb x1 x2 x3 ∧ ((r = 0 ∨ r = 1))) (fun _ => zB D classes (TY cI cJ cZ cW cT) A [(h, .inr (4, [.ref ac, .ref ab, .int he])), (ab, .inl (cI, 600, .inl fb))]) A) (List.toArray [.ref h, .int x1, .int x2, .int x3]) s 0 0 A) (F0 m 16 ls []) := by
      intro k16
      induction k16 with
      | zero => intro v4 hk; exact absurd hk (Nat.not_lt_zero _)
      | succ k16 ih =>
        intro v4 hk  H locs ls hP hD hS hl hF
        have hF := hF.trans (F_Memory_canGrow_L16_s fb x1 x3 k16 v4)
        refine lv_iload hx hb d_Memory_canGrow_16 (lv_at hl 0 rfl) ?_
        refine lv_iload_n hx hb d_Memory_canGrow_18 rfl (lv_at hl 2 rfl) ?_
        refine lv_iload_n hx hb d_Memory_canGrow_19 rfl (lv_at hl 4 rfl) ?_
        refine lv_iadd hx hb d_Memory_canGrow_20 ?_
        refine lv_icmp_ge (tgt := 54) hx hb d_Memory_canGrow_21 (by decide) (fun c2 => ?_) (fun c2 => ?_)
        · have hF := hF.trans (if_pos c2)
          refine lv_iconst (v := 1) hx hb d_Memory_canGrow_54 (by decide) ?_
          exact W.zret (v := 1) hx hb hr rfl (fun t ht hW => ⟨⟨_, (), rfl, ⟨hF.symm, (Or.inr rfl)⟩, ⟨by rw [ht]; exact hP, va_K.moved hW.alike hK, hD⟩⟩, hS.F ht⟩) hS.2.2 d_Memory_canGrow_55
        · have hF := hF.trans (if_neg c2)
          refine lv_iload hx hb d_Memory_canGrow_24 (lv_at hl 0 rfl) ?_
          refine lv_sipush (v := 400) hx hb d_Memory_canGrow_26 (by decide) ?_
          refine lv_icmp_lt (tgt := 46) hx hb d_Memory_canGrow_29 (by decide) (fun c3 => ?_) (fun c3 => ?_)
          · have hF := hF.trans (if_pos c3)
            refine lv_iconst (v := 0) hx hb d_Memory_canGrow_46 (by decide) ?_
            exact W.zret (v := 0) hx hb hr rfl (fun t ht hW => ⟨⟨_, (), rfl, ⟨hF.symm, (Or.inl rfl)⟩, ⟨by rw [ht]; exact hP, va_K.moved hW.alike hK, hD⟩⟩, hS.F ht⟩) hS.2.2 d_Memory_canGrow_47
          · have hF := hF.trans (if_neg c3)
            refine lv_aload_n hx hb d_Memory_canGrow_32 rfl (lv_at hl 1 rfl) ?_
            refine va_get (D := D) (v := .ref ab) (C := "ColonMachine$Memory") (T := T_Memory) (N := 3) hx hb hT i_Memory hown hK hP 0 rfl rfl 1 (by decide) (hT _ fl_Memory_13) (fun _ h9 => h9) rfl d_Memory_canGrow_33 ?_
            refine lv_iload hx hb d_Memory_canGrow_36 (lv_at hl 0 rfl) ?_
            refine lv_sipush (v := 400) hx hb d_Memory_canGrow_38 (by decide) ?_
            refine lv_isub hx hb d_Memory_canGrow_41 ?_
            refine va_iald hx hb hK hP 1 0 rfl rfl (by have := ti_lo v4; have := ti_hi v4; have := ti_lo he; have := ti_hi he; have := ti_lo x1; have := ti_hi x1; have := ti_lo x3; have := ti_hi x3; have t400 : Int32.toInt 400 = 400 := rfl; have t600 : Int32.toInt 600 = 600 := rfl; have t1000 : Int32.toInt 1000 = 1000 := rfl; rw [vp_in_iff]; (try simp only [true_or, or_true, true_and, and_true, z_tn, CellsOk, CallsOk, TextOk, MemOk, OutOk, Int32.lt_iff_toInt_lt, Int32.le_iff_toInt_le, ← Int32.toInt_inj, Int32.toInt_add, Int32.toInt_sub, Int32.toInt_mul, Int32.toInt_neg, zbm, zbm', t400, t600, t1000] at c1 c2 c3 hi ⊢) <;> omega) d_Memory_canGrow_42 ?_
            refine lv_if_eq (tgt := 48) hx hb d_Memory_canGrow_43 (by decide) (fun c4 => ?_) (fun c4 => ?_)
            · have hF := hF.trans (if_pos c4)
              refine lv_iinc (v := v4 + 1) (lv' := [(4, .int (v4 + 1)), (0, .ref h), (1, .int x1), (2, .int x2), (3, .int x3)]) hx hb d_Memory_canGrow_48 hl (k := 0) rfl rfl (by decide) rfl (fun ls hl => ?_)
              refine lv_goto (tgt := 16) hx hb d_Memory_canGrow_51 (by decide) ?_
              exact ih (v4 + 1) (by have := ti_lo x1; have := ti_hi x1; have := ti_lo x3; have := ti_hi x3; have := ti_lo v4; have := ti_hi v4; have := ti_lo he; have := ti_hi he; have t1 : Int32.toInt 1 = 1 := rfl; have t1000 : Int32.toInt 1000 = 1000 := rfl; have t400 : Int32.toInt 400 = 400 := rfl; have t0 : Int32.toInt 0 = 0 := rfl; (try simp only [true_or, or_true, true_and, and_true, z_tn, CellsOk, CallsOk, TextOk, MemOk, OutOk, Int32.lt_iff_toInt_lt, Int32.le_iff_toInt_le, ← Int32.toInt_inj, Int32.toInt_add, Int32.toInt_sub, Int32.toInt_mul, Int32.toInt_neg, zbm, zbm', t1, t1000, t400, t0] at c1 c2 c3 c4 hi hk ⊢) <;> omega)  _ _ _ hP hD hS (lv_sub hl [0, 1, 2, 3, 4] rfl) hF
            · have hF := hF.trans (if_neg c4)
              refine lv_iconst (v := 0) hx hb d_Memory_canGrow_46 (by decide) ?_
              exact W.zret (v := 0) hx hb hr rfl (fun t ht hW => ⟨⟨_, (), rfl, ⟨hF.symm, (Or.inl rfl)⟩, ⟨by rw [ht]; exact hP, va_K.moved hW.alike hK, hD⟩⟩, hS.F ht⟩) hS.2.2 d_Memory_canGrow_47
    exact loop ((((x1 + x3).toInt - (x1 + x2).toInt).toNat) + 1) (x1 + x2) (Nat.lt_succ_self _)  _ _ _ hP hD hS (lv_sub hl [0, 1, 2, 3, 4] rfl) hF
  · have hF := hF.trans (if_neg c1)
    refine lv_iconst (v := 0) hx hb d_Memory_canGrow_9 (by decide) ?_
    exact W.zret (v := 0) hx hb hr rfl (fun t ht hW => ⟨⟨_, (), rfl, ⟨hF.symm, (Or.inl rfl)⟩, ⟨by rw [ht]; exact hP, va_K.moved hW.alike hK, hD⟩⟩, hS.F ht⟩) hS.2.2 d_Memory_canGrow_10
/-- the picture of ColonMachine$Memory.grow -/
def F_Memory_grow (fc : Nat → Int32) (fb : Nat → Int32) (x1 : Int32) (x2 : Int32) (x3 : Int32) : Int32 × (Nat → Int32) × (Nat → Int32) := bd (F_Memory_mark fb (x1 + x2) (x1 + x3) x1) (fun q1 => bd (F_Memory_clearCells fc (x1 + x2) (x1 + x3)) (fun q2 => (x1, (q2, q1))))
theorem F_Memory_grow_e (fc : Nat → Int32) (fb : Nat → Int32) (x1 : Int32) (x2 : Int32) (x3 : Int32) : F_Memory_grow fc fb x1 x2 x3 = bd (F_Memory_mark fb (x1 + x2) (x1 + x3) x1) (fun q1 => bd (F_Memory_clearCells fc (x1 + x2) (x1 + x3)) (fun q2 => (x1, (q2, q1)))) := rfl
set_option maxHeartbeats 4000000 in
set_option maxRecDepth 100000 in
theorem c_Memory_grow (l : Launch) (D : va_G) (cI cJ cZ cW cT : ClassId) (sz : Nat) (h : Nat) (ac : Nat) (ab : Nat) (he : Int32) (fc : Nat → Int32) (fb : Nat → Int32) (x1 : Int32) (x2 : Int32) (x3 : Int32) (hi : MemOk he) : Met l y_Memory_grow w_Memory_grow ({ frames := 1, cells := 0, slots := 0, locals := 24 }) (va_Pc [.ref h, .int x1, .int x2, .int x3] (zP D classes (TY cI cJ cZ cW cT) [(h, .inr (4, [.ref ac, .ref ab, .int he])), (ac, .inl (cI, 1000, .inl fc)), (ab, .inl (cI, 600, .inl fb))] sz)) (va_Qi (fun (r : Int32) (u : (Nat → Int32) × (Nat → Int32)) => (r, u) = F_Memory_grow fc fb x1 x2 x3 ∧ (True)) (fun u => zB D classes (TY cI cJ cZ cW cT) (va_A [(h, .inr (4, [.ref ac, .ref ab, .int he])), (ac, .inl (cI, 1000, .inl fc)), (ab, .inl (cI, 600, .inl fb))] sz) [(h, .inr (4, [.ref ac, .ref ab, .int he])), (ac, .inl (cI, 1000, .inl u.1)), (ab, .inl (cI, 600, .inl u.2))]) (va_A [(h, .inr (4, [.ref ac, .ref ab, .int he])), (ac, .inl (cI, 1000, .inl fc)), (ab, .inl (cI, 600, .inl fb))] sz)) 0 0 (va_A [(h, .inr (4, [.ref ac, .ref ab, .int he])), (ac, .inl (cI, 1000, .inl fc)), (ab, .inl (cI, 600, .inl fb))] sz) := by
  refine Met.ofW (cc := b_Memory_grow) (maxL := 4) (ret := (some .int)) (by decide) rfl ?_
  intro p e s m args below meth c s₁ B hml hv
  obtain ⟨rfl, hsz, hP, hK, hD0, hE⟩ := hv
  have hx := B.exec
  have hb := B.bytes
  have hr := B.returns
  have hts := atoms_spec (ws := w_Memory_grow) B.pre
  have hT : ∀ w ∈ TB, w.before _ s = true := fun w h => hts w (List.mem_cons_of_mem _ h)
  have hown : s.vm.findClass "ColonMachine$Memory" = some m.cls := findClass_of_methodNamed B.named
  have hlocks := B.notSynchronized
  subst hsz
  have hD := hD0.self (sz := s.heap.size)
  generalize hAe : va_A [(h, .inr (4, [.ref ac, .ref ab, .int he])), (ac, .inl (cI, 1000, .inl fc)), (ab, .inl (cI, 600, .inl fb))] s.heap.size = A at hD hE ⊢
  have hA : ∀ q : Nat, s.heap.size ≤ q → A q := fun q h => by rw [← hAe]; exact Or.inr h
  have hS : va_S A s.heap s.heap [] := va_S.rf
  have hl := lv_entry [.ref h, .int x1, .int x2, .int x3] (n := 4) (Nat.le_of_ble_eq_true rfl)
  rw [lg_entry_eq]
  generalize (lg_sl [.ref h, .int x1, .int x2, .int x3] ++ List.replicate (4 - (lg_sl [.ref h, .int x1, .int x2, .int x3]).length) Slot.unset).toArray = ls at hl ⊢
  have hl : lv_has ls 4 [(0, .ref h), (1, .int x1), (2, .int x2), (3, .int x3)] := hl
  have hF := F_Memory_grow_e fc fb x1 x2 x3
  refine lv_aload_n hx hb d_Memory_grow_0 rfl (lv_at hl 0 rfl) ?_
  refine lv_iload_n hx hb d_Memory_grow_1 rfl (lv_at hl 1 rfl) ?_
  refine lv_iload_n hx hb d_Memory_grow_2 rfl (lv_at hl 2 rfl) ?_
  refine lv_iadd hx hb d_Memory_grow_3 ?_
  refine lv_iload_n hx hb d_Memory_grow_4 rfl (lv_at hl 1 rfl) ?_
  refine lv_iload_n hx hb d_Memory_grow_5 rfl (lv_at hl 3 rfl) ?_
  refine lv_iadd hx hb d_Memory_grow_6 ?_
  refine lv_iload_n hx hb d_Memory_grow_7 rfl (lv_at hl 1 rfl) ?_
  refine kN_sv (wr := [(ac, .inl (cI, 1000, .inl fc))]) (fun u : (Nat → Int32) => [(h, .inr (4, [.ref ac, .ref ab, .int he])), (ac, .inl (cI, 1000, .inl fc)), (ab, .inl (cI, 600, .inl u))]) (zV (wc := [(h, .inr (4, [.ref ac, .ref ab, .int he])), (ab, .inl (cI, 600, .inl fb))]) (As := [.int (x1 + x2), .int (x1 + x3), .int x1]) (rest := []) (st0 := [.int x1, .int (x1 + x3), .int (x1 + x2), .ref h]) ⟨hx, hb, hml, hown, hT⟩ (c_Memory_mark l D cI cJ cZ cW cT s.heap.size h ac ab he fb (x1 + x2) (x1 + x3) x1 hi) (cwV 3 hT (tbV ml_Memory_34 im_Memory_mark se_Memory_mark in_Memory co_Memory_mark) rfl rfl rfl v_Memory_mark ⟨Nat.le_of_ble_eq_true rfl, Nat.le_of_ble_eq_true rfl⟩) hK hE hP hD hS hA [0, 2] rfl rfl 0 rfl rfl rfl hl.1 rfl (Nat.le_of_ble_eq_true rfl) d_Memory_grow_8 ⟨Nat.le_of_ble_eq_true rfl, Nat.le_of_ble_eq_true rfl⟩) hP hD hS hA [0, 2] [1] rfl rfl rfl (by decide) [1, 0, 2] rfl (fun u => rfl) (fun q1 H locs e1 k1 hP hD hS => ?_)
  have hP : va_P D classes [(h, .inr (4, [.ref ac, .ref ab, .int he])), (ac, .inl (cI, 1000, .inl fc)), (ab, .inl (cI, 600, .inl q1))] H := hP
  have hD : va_D A [(h, .inr (4, [.ref ac, .ref ab, .int he])), (ac, .inl (cI, 1000, .inl fc)), (ab, .inl (cI, 600, .inl q1))] := hD
  have hF := hF.trans (bd_e e1)
  refine lv_aload_n hx hb d_Memory_grow_11 rfl (lv_at hl 0 rfl) ?_
  refine lv_iload_n hx hb d_Memory_grow_12 rfl (lv_at hl 1 rfl) ?_
  refine lv_iload_n hx hb d_Memory_grow_13 rfl (lv_at hl 2 rfl) ?_
  refine lv_iadd hx hb d_Memory_grow_14 ?_
  refine lv_iload_n hx hb d_Memory_grow_15 rfl (lv_at hl 1 rfl) ?_
  refine lv_iload_n hx hb d_Memory_grow_16 rfl (lv_at hl 3 rfl) ?_
  refine lv_iadd hx hb d_Memory_grow_17 ?_
  refine kN_sv (wr := [(ab, .inl (cI, 600, .inl q1))]) (fun u : (Nat → Int32) => [(h, .inr (4, [.ref ac, .ref ab, .int he])), (ac, .inl (cI, 1000, .inl u)), (ab, .inl (cI, 600, .inl q1))]) (zV (wc := [(h, .inr (4, [.ref ac, .ref ab, .int he])), (ac, .inl (cI, 1000, .inl fc))]) (As := [.int (x1 + x2), .int (x1 + x3)]) (rest := []) (st0 := [.int (x1 + x3), .int (x1 + x2), .ref h]) ⟨hx, hb, hml, hown, hT⟩ (c_Memory_clearCells l D cI cJ cZ cW cT H.size h ac ab he fc (x1 + x2) (x1 + x3) hi) (cwV 2 hT (tbV ml_Memory_38 im_Memory_clearCells se_Memory_clearCells in_Memory co_Memory_clearCells) rfl rfl rfl v_Memory_clearCells ⟨Nat.le_of_ble_eq_true rfl, Nat.le_of_ble_eq_true rfl⟩) hK hE hP hD hS hA [0, 1] rfl rfl 0 rfl rfl rfl hl.1 rfl (Nat.le_of_ble_eq_true rfl) d_Memory_grow_18 ⟨Nat.le_of_ble_eq_true rfl, Nat.le_of_ble_eq_true rfl⟩) hP hD hS hA [0, 1] [2] rfl rfl rfl (by decide) [1, 2, 0] rfl (fun u => rfl) (fun q2 H locs e2 k2 hP hD hS => ?_)
  have hP : va_P D classes [(h, .inr (4, [.ref ac, .ref ab, .int he])), (ac, .inl (cI, 1000, .inl q2)), (ab, .inl (cI, 600, .inl q1))] H := hP
  have hD : va_D A [(h, .inr (4, [.ref ac, .ref ab, .int he])), (ac, .inl (cI, 1000, .inl q2)), (ab, .inl (cI, 600, .inl q1))] := hD
  have hF := hF.trans (bd_e e2)
  refine lv_iload_n hx hb d_Memory_grow_21 rfl (lv_at hl 1 rfl) ?_
  exact W.iret (v := x1) hx hb hr (fun t ht hW => ⟨⟨_, _, rfl, ⟨hF.symm, trivial⟩, ⟨by rw [ht]; exact hP, va_K.moved hW.alike hK, hD⟩⟩, hS.F ht⟩) hS.2.2 d_Memory_grow_22
def F_Memory_move_L17 (fb : Nat → Int32) (x1 : Int32) (x2 : Int32) (x3 : Int32) (q1 : Int32) : Nat → (Int32) → (Nat → Int32) → Int32 × (Nat → Int32) × (Nat → Int32)
  | 0, _, _ => (0, ((fun _ => 0), (fun _ => 0)))
  | k17 + 1, v5, z1_f => if x2 ≤ v5 then (bd (F_Memory_clearCells z1_f (q1 + x2) (q1 + x3)) (fun q4 => bd (F_Memory_mark fb q1 (q1 + x3) q1) (fun q5 => bd (F_Memory_mark q5 x1 (x1 + x2) 0) (fun q6 => (q1, (q4, q6)))))) else (bd (F_Memory_read z1_f (x1 + v5)) (fun q7 => bd (F_Memory_write z1_f (q1 + v5) q7) (fun q8 => F_Memory_move_L17 fb x1 x2 x3 q1 k17 (v5 + 1) q8)))
theorem F_Memory_move_L17_s (fb : Nat → Int32) (x1 : Int32) (x2 : Int32) (x3 : Int32) (q1 : Int32) (k17 : Nat) (v5 : Int32) (z1_f : Nat → Int32) : F_Memory_move_L17 fb x1 x2 x3 q1 (k17 + 1) v5 z1_f = if x2 ≤ v5 then (bd (F_Memory_clearCells z1_f (q1 + x2) (q1 + x3)) (fun q4 => bd (F_Memory_mark fb q1 (q1 + x3) q1) (fun q5 => bd (F_Memory_mark q5 x1 (x1 + x2) 0) (fun q6 => (q1, (q4, q6)))))) else (bd (F_Memory_read z1_f (x1 + v5)) (fun q7 => bd (F_Memory_write z1_f (q1 + v5) q7) (fun q8 => F_Memory_move_L17 fb x1 x2 x3 q1 k17 (v5 + 1) q8))) := rfl
/-- the picture of ColonMachine$Memory.move -/
def F_Memory_move (fc : Nat → Int32) (fb : Nat → Int32) (x1 : Int32) (x2 : Int32) (x3 : Int32) : Int32 × (Nat → Int32) × (Nat → Int32) := bd (F_Memory_lowestPlace fb x3) (fun q1 => if q1 = 0 then (0, (fc, fb)) else (F_Memory_move_L17 fb x1 x2 x3 q1 (((x2.toInt - (0 : Int32).toInt).toNat) + 1) 0 fc))
theorem F_Memory_move_e (fc : Nat → Int32) (fb : Nat → Int32) (x1 : Int32) (x2 : Int32) (x3 : Int32) : F_Memory_move fc fb x1 x2 x3 = bd (F_Memory_lowestPlace fb x3) (fun q1 => if q1 = 0 then (0, (fc, fb)) else (F_Memory_move_L17 fb x1 x2 x3 q1 (((x2.toInt - (0 : Int32).toInt).toNat) + 1) 0 fc)) := rfl
set_option maxHeartbeats 4000000 in
set_option maxRecDepth 100000 in
theorem c_Memory_move (l : Launch) (D : va_G) (cI cJ cZ cW cT : ClassId) (sz : Nat) (h : Nat) (ac : Nat) (ab : Nat) (he : Int32) (fc : Nat → Int32) (fb : Nat → Int32) (x1 : Int32) (x2 : Int32) (x3 : Int32) (hi : MemOk he) : Met l y_Memory_move w_Memory_move ({ frames := 1, cells := 0, slots := 0, locals := 24 }) (va_Pc [.ref h, .int x1, .int x2, .int x3] (zP D classes (TY cI cJ cZ cW cT) [(h, .inr (4, [.ref ac, .ref ab, .int he])), (ac, .inl (cI, 1000, .inl fc)), (ab, .inl (cI, 600, .inl fb))] sz)) (va_Qi (fun (r : Int32) (u : (Nat → Int32) × (Nat → Int32)) => (r, u) = F_Memory_move fc fb x1 x2 x3 ∧ (True)) (fun u => zB D classes (TY cI cJ cZ cW cT) (va_A [(h, .inr (4, [.ref ac, .ref ab, .int he])), (ac, .inl (cI, 1000, .inl fc)), (ab, .inl (cI, 600, .inl fb))] sz) [(h, .inr (4, [.ref ac, .ref ab, .int he])), (ac, .inl (cI, 1000, .inl u.1)), (ab, .inl (cI, 600, .inl u.2))]) (va_A [(h, .inr (4, [.ref ac, .ref ab, .int he])), (ac, .inl (cI, 1000, .inl fc)), (ab, .inl (cI, 600, .inl fb))] sz)) 0 0 (va_A [(h, .inr (4, [.ref ac, .ref ab, .int he])), (ac, .inl (cI, 1000, .inl fc)), (ab, .inl (cI, 600, .inl fb))] sz) := by
  refine Met.ofW (cc := b_Memory_move) (maxL := 6) (ret := (some .int)) (by decide) rfl ?_
  intro p e s m args below meth c s₁ B hml hv
  obtain ⟨rfl, hsz, hP, hK, hD0, hE⟩ := hv
  have hx := B.exec
  have hb := B.bytes
  have hr := B.returns
  have hts := atoms_spec (ws := w_Memory_move) B.pre
  have hT : ∀ w ∈ TB, w.before _ s = true := fun w h => hts w (List.mem_cons_of_mem _ h)
  have hown : s.vm.findClass "ColonMachine$Memory" = some m.cls := findClass_of_methodNamed B.named
  have hlocks := B.notSynchronized
  subst hsz
  have hD := hD0.self (sz := s.heap.size)
  generalize hAe : va_A [(h, .inr (4, [.ref ac, .ref ab, .int he])), (ac, .inl (cI, 1000, .inl fc)), (ab, .inl (cI, 600, .inl fb))] s.heap.size = A at hD hE ⊢
  have hA : ∀ q : Nat, s.heap.size ≤ q → A q := fun q h => by rw [← hAe]; exact Or.inr h
  have hS : va_S A s.heap s.heap [] := va_S.rf
  have hl := lv_entry [.ref h, .int x1, .int x2, .int x3] (n := 6) (Nat.le_of_ble_eq_true rfl)
  rw [lg_entry_eq]
  generalize (lg_sl [.ref h, .int x1, .int x2, .int x3] ++ List.replicate (6 - (lg_sl [.ref h, .int x1, .int x2, .int x3]).length) Slot.unset).toArray = ls at hl ⊢
  have hl : lv_has ls 6 [(0, .ref h), (1, .int x1), (2, .int x2), (3, .int x3)] := hl
  have hF := F_Memory_move_e fc fb x1 x2 x3
  refine lv_aload_n hx hb d_Memory_move_0 rfl (lv_at hl 0 rfl) ?_
  refine lv_iload_n hx hb d_Memory_move_1 rfl (lv_at hl 3 rfl) ?_
  refine kN_pi (wr := [(ac, .inl (cI, 1000, .inl fc))]) (zV (wc := [(h, .inr (4, [.ref ac, .ref ab, .int he])), (ab, .inl (cI, 600, .inl fb))]) (As := [.int x3]) (rest := []) (st0 := [.int x3, .ref h]) ⟨hx, hb, hml, hown, hT⟩ (c_Memory_lowestPlace l D cI cJ cZ cW cT s.heap.size h ac ab he fb x3 hi) (cwV 1 hT (tbV ml_Memory_30 im_Memory_lowestPlace se_Memory_lowestPlace in_Memory co_Memory_lowestPlace) rfl rfl rfl v_Memory_lowestPlace ⟨Nat.le_of_ble_eq_true rfl, Nat.le_of_ble_eq_true rfl⟩) hK hE hP hD hS hA [0, 2] rfl rfl 0 rfl rfl rfl hl.1 rfl (Nat.le_of_ble_eq_true rfl) d_Memory_move_2 ⟨Nat.le_of_ble_eq_true rfl, Nat.le_of_ble_eq_true rfl⟩) hP hD hS hA [0, 2] [1] rfl rfl rfl (by decide) [1, 0, 2] rfl rfl (fun q1 H locs e1 k1 hP hD hS => ?_)
  have hP : va_P D classes [(h, .inr (4, [.ref ac, .ref ab, .int he])), (ac, .inl (cI, 1000, .inl fc)), (ab, .inl (cI, 600, .inl fb))] H := hP
  have hD : va_D A [(h, .inr (4, [.ref ac, .ref ab, .int he])), (ac, .inl (cI, 1000, .inl fc)), (ab, .inl (cI, 600, .inl fb))] := hD
  have hF := hF.trans (bd_e e1)
  refine lv_istore (lv' := [(4, .int q1), (0, .ref h), (1, .int x1), (2, .int x2), (3, .int x3)]) hx hb d_Memory_move_5 hl (by decide) rfl (fun ls hl => ?_)
  refine lv_iload hx hb d_Memory_move_7 (lv_at hl 0 rfl) ?_
  refine lv_if_ne (tgt := 14) hx hb d_Memory_move_9 (by decide) (fun c2 => ?_) (fun c2 => ?_)
  · have hF := hF.trans (if_neg c2)
    refine lv_iconst (v := 0) hx hb d_Memory_move_14 (by decide) ?_
    refine lv_istore (lv' := [(5, .int 0), (4, .int q1), (0, .ref h), (1, .int x1), (2, .int x2), (3, .int x3)]) hx hb d_Memory_move_15 hl (by decide) rfl (fun ls hl => ?_)
    have loop : ∀ (k17 : Nat) (v5 : Int32) (z1_f : Nat → Int32) (hk : (x2.toInt - v5.toInt).toNat < k17) (hw : 0 ≤ v5.toInt) (H : Heap) (locs : List Loc) (ls : Array Slot) (hP : va_P D classes [(h, .inr (4, [.ref ac, .ref ab, .int he])), (ac, .inl (cI, 1000, .inl z1_f)), (ab, .inl (cI, 600, .inl fb))] H) (hD : va_D A [(h, .inr (4, [.ref ac, .ref ab, .int he])), (ac, .inl (cI, 1000, .inl z1_f)), (ab, .inl (cI, 600, .inl fb))]) (hS : va_S A s.heap H locs) (hl : lv_has ls 6 [(5, .int v5), (4, .int q1), (0, .ref h), (1, .int x1), (2, .int x2), (3, .int x3)]) (hF : F_Memory_move fc fb x1 x2 x3 = F_Memory_move_L17 fb x1 x2 x3 q1 k17 v5 z1_f), W p l e (headSpec w_Memory_move ({ frames := 1, cells := 0, slots := 0, locals := 24 })).room s m (List.toArray [.ref h, .int x1, .int x2, .int x3]) below meth c H locs 0 0 (MQ below (va_Qi (fun (r : Int32) (u : (Nat → Int32) × (Nat → Int32)) => (r, u) = F_Memory_move fc fb x1 x2 x3 ∧ (True)) (fun u => zB D classes (TY cI cJ cZ cW cT) A [(h, .inr (4, [.ref ac, .ref ab, .int he])), (ac, .inl (cI, 1000, .inl u.1)), (ab, .inl (cI, 600, .inl u.2))]) A) (List.toArray [.ref h, .int x1, .int x2, .int x3]) s 0 0 A) (F0 m 17 ls []) := by
      intro k17
      induction k17 with
      | zero => intro v5 z1_f hk; exact absurd hk (Nat.not_lt_zero _)
      | succ k17 ih =>
        intro v5 z1_f hk hw H locs ls hP hD hS hl hF
        have hF := hF.trans (F_Memory_move_L17_s fb x1 x2 x3 q1 k17 v5 z1_f)
        refine lv_iload hx hb d_Memory_move_17 (lv_at hl 0 rfl) ?_
        refine lv_iload_n hx hb d_Memory_move_19 rfl (lv_at hl 4 rfl) ?_
        refine lv_icmp_ge (tgt := 46) hx hb d_Memory_move_20 (by decide) (fun c3 => ?_) (fun c3 => ?_)
        · have hF := hF.trans (if_pos c3)
          refine lv_aload_n hx hb d_Memory_move_46 rfl (lv_at hl 2 rfl) ?_
          refine lv_iload hx hb d_Memory_move_47 (lv_at hl 1 rfl) ?_
          refine lv_iload_n hx hb d_Memory_move_49 rfl (lv_at hl 4 rfl) ?_
          refine lv_iadd hx hb d_Memory_move_50 ?_
          refine lv_iload hx hb d_Memory_move_51 (lv_at hl 1 rfl) ?_
          refine lv_iload_n hx hb d_Memory_move_53 rfl (lv_at hl 5 rfl) ?_
          refine lv_iadd hx hb d_Memory_move_54 ?_
          refine kN_sv (wr := [(ab, .inl (cI, 600, .inl fb))]) (fun u : (Nat → Int32) => [(h, .inr (4, [.ref ac, .ref ab, .int he])), (ac, .inl (cI, 1000, .inl u)), (ab, .inl (cI, 600, .inl fb))]) (zV (wc := [(h, .inr (4, [.ref ac, .ref ab, .int he])), (ac, .inl (cI, 1000, .inl z1_f))]) (As := [.int (q1 + x2), .int (q1 + x3)]) (rest := []) (st0 := [.int (q1 + x3), .int (q1 + x2), .ref h]) ⟨hx, hb, hml, hown, hT⟩ (c_Memory_clearCells l D cI cJ cZ cW cT H.size h ac ab he z1_f (q1 + x2) (q1 + x3) hi) (cwV 2 hT (tbV ml_Memory_38 im_Memory_clearCells se_Memory_clearCells in_Memory co_Memory_clearCells) rfl rfl rfl v_Memory_clearCells ⟨Nat.le_of_ble_eq_true rfl, Nat.le_of_ble_eq_true rfl⟩) hK hE hP hD hS hA [0, 1] rfl rfl 0 rfl rfl rfl hl.1 rfl (Nat.le_of_ble_eq_true rfl) d_Memory_move_55 ⟨Nat.le_of_ble_eq_true rfl, Nat.le_of_ble_eq_true rfl⟩) hP hD hS hA [0, 1] [2] rfl rfl rfl (by decide) [1, 2, 0] rfl (fun u => rfl) (fun q4 H locs e4 k4 hP hD hS => ?_)
          have hP : va_P D classes [(h, .inr (4, [.ref ac, .ref ab, .int he])), (ac, .inl (cI, 1000, .inl q4)), (ab, .inl (cI, 600, .inl fb))] H := hP
          have hD : va_D A [(h, .inr (4, [.ref ac, .ref ab, .int he])), (ac, .inl (cI, 1000, .inl q4)), (ab, .inl (cI, 600, .inl fb))] := hD
          have hF := hF.trans (bd_e e4)
          refine lv_aload_n hx hb d_Memory_move_58 rfl (lv_at hl 2 rfl) ?_
          refine lv_iload hx hb d_Memory_move_59 (lv_at hl 1 rfl) ?_
          refine lv_iload hx hb d_Memory_move_61 (lv_at hl 1 rfl) ?_
          refine lv_iload_n hx hb d_Memory_move_63 rfl (lv_at hl 5 rfl) ?_
          refine lv_iadd hx hb d_Memory_move_64 ?_
          refine lv_iload hx hb d_Memory_move_65 (lv_at hl 1 rfl) ?_
          refine kN_sv (wr := [(ac, .inl (cI, 1000, .inl q4))]) (fun u : (Nat → Int32) => [(h, .inr (4, [.ref ac, .ref ab, .int he])), (ac, .inl (cI, 1000, .inl q4)), (ab, .inl (cI, 600, .inl u))]) (zV (wc := [(h, .inr (4, [.ref ac, .ref ab, .int he])), (ab, .inl (cI, 600, .inl fb))]) (As := [.int q1, .int (q1 + x3), .int q1]) (rest := []) (st0 := [.int q1, .int (q1 + x3), .int q1, .ref h]) ⟨hx, hb, hml, hown, hT⟩ (c_Memory_mark l D cI cJ cZ cW cT H.size h ac ab he fb q1 (q1 + x3) q1 hi) (cwV 3 hT (tbV ml_Memory_34 im_Memory_mark se_Memory_mark in_Memory co_Memory_mark) rfl rfl rfl v_Memory_mark ⟨Nat.le_of_ble_eq_true rfl, Nat.le_of_ble_eq_true rfl⟩) hK hE hP hD hS hA [0, 2] rfl rfl 0 rfl rfl rfl hl.1 rfl (Nat.le_of_ble_eq_true rfl) d_Memory_move_67 ⟨Nat.le_of_ble_eq_true rfl, Nat.le_of_ble_eq_true rfl⟩) hP hD hS hA [0, 2] [1] rfl rfl rfl (by decide) [1, 0, 2] rfl (fun u => rfl) (fun q5 H locs e5 k5 hP hD hS => ?_)
          have hP : va_P D classes [(h, .inr (4, [.ref ac, .ref ab, .int he])), (ac, .inl (cI, 1000, .inl q4)), (ab, .inl (cI, 600, .inl q5))] H := hP
          have hD : va_D A [(h, .inr (4, [.ref ac, .ref ab, .int he])), (ac, .inl (cI, 1000, .inl q4)), (ab, .inl (cI, 600, .inl q5))] := hD
          have hF := hF.trans (bd_e e5)
          refine lv_aload_n hx hb d_Memory_move_70 rfl (lv_at hl 2 rfl) ?_
          refine lv_iload_n hx hb d_Memory_move_71 rfl (lv_at hl 3 rfl) ?_
          refine lv_iload_n hx hb d_Memory_move_72 rfl (lv_at hl 3 rfl) ?_
          refine lv_iload_n hx hb d_Memory_move_73 rfl (lv_at hl 4 rfl) ?_
          refine lv_iadd hx hb d_Memory_move_74 ?_
          refine lv_iconst (v := 0) hx hb d_Memory_move_75 (by decide) ?_
          refine kN_sv (wr := [(ac, .inl (cI, 1000, .inl q4))]) (fun u : (Nat → Int32) => [(h, .inr (4, [.ref ac, .ref ab, .int he])), (ac, .inl (cI, 1000, .inl q4)), (ab, .inl (cI, 600, .inl u))]) (zV (wc := [(h, .inr (4, [.ref ac, .ref ab, .int he])), (ab, .inl (cI, 600, .inl q5))]) (As := [.int x1, .int (x1 + x2), .int 0]) (rest := []) (st0 := [.int 0, .int (x1 + x2), .int x1, .ref h]) ⟨hx, hb, hml, hown, hT⟩ (c_Memory_mark l D cI cJ cZ cW cT H.size h ac ab he q5 x1 (x1 + x2) 0 hi) (cwV 3 hT (tbV ml_Memory_34 im_Memory_mark se_Memory_mark in_Memory co_Memory_mark) rfl rfl rfl v_Memory_mark ⟨Nat.le_of_ble_eq_true rfl, Nat.le_of_ble_eq_true rfl⟩) hK hE hP hD hS hA [0, 2] rfl rfl 0 rfl rfl rfl hl.1 rfl (Nat.le_of_ble_eq_true rfl) d_Memory_move_76 ⟨Nat.le_of_ble_eq_true rfl, Nat.le_of_ble_eq_true rfl⟩) hP hD hS hA [0, 2] [1] rfl rfl rfl (by decide) [1, 0, 2] rfl (fun u => rfl) (fun q6 H locs e6 k6 hP hD hS => ?_)
          have hP : va_P D classes [(h, .inr (4, [.ref ac, .ref ab, .int he])), (ac, .inl (cI, 1000, .inl q4)), (ab, .inl (cI, 600, .inl q6))] H := hP
          have hD : va_D A [(h, .inr (4, [.ref ac, .ref ab, .int he])), (ac, .inl (cI, 1000, .inl q4)), (ab, .inl (cI, 600, .inl q6))] := hD
          have hF := hF.trans (bd_e e6)
          refine lv_iload hx hb d_Memory_move_79 (lv_at hl 1 rfl) ?_
          exact W.iret (v := q1) hx hb hr (fun t ht hW => ⟨⟨_, _, rfl, ⟨hF.symm, trivial⟩, ⟨by rw [ht]; exact hP, va_K.moved hW.alike hK, hD⟩⟩, hS.F ht⟩) hS.2.2 d_Memory_move_81
        · have hF := hF.trans (if_neg c3)
          refine lv_aload_n hx hb d_Memory_move_23 rfl (lv_at hl 2 rfl) ?_
          refine lv_iload hx hb d_Memory_move_24 (lv_at hl 1 rfl) ?_
          refine lv_iload hx hb d_Memory_move_26 (lv_at hl 0 rfl) ?_
          refine lv_iadd hx hb d_Memory_move_28 ?_
          refine lv_aload_n hx hb d_Memory_move_29 rfl (lv_at hl 2 rfl) ?_
          refine lv_iload_n hx hb d_Memory_move_30 rfl (lv_at hl 3 rfl) ?_
          refine lv_iload hx hb d_Memory_move_31 (lv_at hl 0 rfl) ?_
          refine lv_iadd hx hb d_Memory_move_33 ?_
          refine kN_pi (wr := [(ab, .inl (cI, 600, .inl fb))]) (zV (wc := [(h, .inr (4, [.ref ac, .ref ab, .int he])), (ac, .inl (cI, 1000, .inl z1_f))]) (As := [.int (x1 + v5)]) (rest := [.int (q1 + v5), .ref h]) (st0 := [.int (x1 + v5), .ref h, .int (q1 + v5), .ref h]) ⟨hx, hb, hml, hown, hT⟩ (c_Memory_read l D cI cJ cZ cW cT H.size h ac ab he z1_f (x1 + v5) hi) (cwV 1 hT (tbV ml_Memory_59 im_Memory_read se_Memory_read in_Memory co_Memory_read) rfl rfl rfl v_Memory_read ⟨Nat.le_of_ble_eq_true rfl, Nat.le_of_ble_eq_true rfl⟩) hK hE hP hD hS hA [0, 1] rfl rfl 0 rfl rfl rfl hl.1 rfl (Nat.le_of_ble_eq_true rfl) d_Memory_move_34 ⟨Nat.le_of_ble_eq_true rfl, Nat.le_of_ble_eq_true rfl⟩) hP hD hS hA [0, 1] [2] rfl rfl rfl (by decide) [1, 2, 0] rfl rfl (fun q7 H locs e7 k7 hP hD hS => ?_)
          have hP : va_P D classes [(h, .inr (4, [.ref ac, .ref ab, .int he])), (ac, .inl (cI, 1000, .inl z1_f)), (ab, .inl (cI, 600, .inl fb))] H := hP
          have hD : va_D A [(h, .inr (4, [.ref ac, .ref ab, .int he])), (ac, .inl (cI, 1000, .inl z1_f)), (ab, .inl (cI, 600, .inl fb))] := hD
          have hF := hF.trans (bd_e e7)
          refine kN_sv (wr := [(ab, .inl (cI, 600, .inl fb))]) (fun u : (Nat → Int32) => [(h, .inr (4, [.ref ac, .ref ab, .int he])), (ac, .inl (cI, 1000, .inl u)), (ab, .inl (cI, 600, .inl fb))]) (zV (wc := [(h, .inr (4, [.ref ac, .ref ab, .int he])), (ac, .inl (cI, 1000, .inl z1_f))]) (As := [.int (q1 + v5), .int q7]) (rest := []) (st0 := [.int q7, .int (q1 + v5), .ref h]) ⟨hx, hb, hml, hown, hT⟩ (c_Memory_write l D cI cJ cZ cW cT H.size h ac ab he z1_f (q1 + v5) q7 hi) (cwV 2 hT (tbV ml_Memory_62 im_Memory_write se_Memory_write in_Memory co_Memory_write) rfl rfl rfl v_Memory_write ⟨Nat.le_of_ble_eq_true rfl, Nat.le_of_ble_eq_true rfl⟩) hK hE hP hD hS hA [0, 1] rfl rfl 0 rfl rfl rfl hl.1 rfl (Nat.le_of_ble_eq_true rfl) d_Memory_move_37 ⟨Nat.le_of_ble_eq_true rfl, Nat.le_of_ble_eq_true rfl⟩) hP hD hS hA [0, 1] [2] rfl rfl rfl (by decide) [1, 2, 0] rfl (fun u => rfl) (fun q8 H locs e8 k8 hP hD hS => ?_)
          have hP : va_P D classes [(h, .inr (4, [.ref ac, .ref ab, .int he])), (ac, .inl (cI, 1000, .inl q8)), (ab, .inl (cI, 600, .inl fb))] H := hP
          have hD : va_D A [(h, .inr (4, [.ref ac, .ref ab, .int he])), (ac, .inl (cI, 1000, .inl q8)), (ab, .inl (cI, 600, .inl fb))] := hD
          have hF := hF.trans (bd_e e8)
          refine lv_iinc (v := v5 + 1) (lv' := [(5, .int (v5 + 1)), (4, .int q1), (0, .ref h), (1, .int x1), (2, .int x2), (3, .int x3)]) hx hb d_Memory_move_40 hl (k := 0) rfl rfl (by decide) rfl (fun ls hl => ?_)
          refine lv_goto (tgt := 17) hx hb d_Memory_move_43 (by decide) ?_
          exact ih (v5 + 1) q8 (by have := ti_lo v5; have := ti_hi v5; have := ti_lo he; have := ti_hi he; have := ti_lo x3; have := ti_hi x3; have := ti_lo q1; have := ti_hi q1; have := ti_lo x2; have := ti_hi x2; have := ti_lo x1; have := ti_hi x1; have := ti_lo q7; have := ti_hi q7; have t1 : Int32.toInt 1 = 1 := rfl; have t0 : Int32.toInt 0 = 0 := rfl; (try simp only [true_or, or_true, true_and, and_true, z_tn, CellsOk, CallsOk, TextOk, MemOk, OutOk, Int32.lt_iff_toInt_lt, Int32.le_iff_toInt_le, ← Int32.toInt_inj, Int32.toInt_add, Int32.toInt_sub, Int32.toInt_mul, Int32.toInt_neg, zbm, zbm', t1, t0] at c2 c3 hi hw hk ⊢) <;> omega) (by have := ti_lo v5; have := ti_hi v5; have := ti_lo he; have := ti_hi he; have := ti_lo x3; have := ti_hi x3; have := ti_lo q1; have := ti_hi q1; have := ti_lo x2; have := ti_hi x2; have := ti_lo x1; have := ti_hi x1; have := ti_lo q7; have := ti_hi q7; have t0 : Int32.toInt 0 = 0 := rfl; have t1 : Int32.toInt 1 = 1 := rfl; (try simp only [true_or, or_true, true_and, and_true, z_tn, CellsOk, CallsOk, TextOk, MemOk, OutOk, Int32.lt_iff_toInt_lt, Int32.le_iff_toInt_le, ← Int32.toInt_inj, Int32.toInt_add, Int32.toInt_sub, Int32.toInt_mul, Int32.toInt_neg, zbm, zbm', t0, t1] at c2 c3 hi hw ⊢) <;> omega) _ _ _ hP hD hS (lv_sub hl [0, 1, 2, 3, 4, 5] rfl) hF
    exact loop (((x2.toInt - (0 : Int32).toInt).toNat) + 1) 0 fc (Nat.lt_succ_self _) (by have := ti_lo he; have := ti_hi he; have := ti_lo x3; have := ti_hi x3; have := ti_lo q1; have := ti_hi q1; have t0 : Int32.toInt 0 = 0 := rfl; (try simp only [true_or, or_true, true_and, and_true, z_tn, CellsOk, CallsOk, TextOk, MemOk, OutOk, Int32.lt_iff_toInt_lt, Int32.le_iff_toInt_le, ← Int32.toInt_inj, Int32.toInt_add, Int32.toInt_sub, Int32.toInt_mul, Int32.toInt_neg, zbm, zbm', t0] at c2 hi ⊢) <;> omega) _ _ _ hP hD hS (lv_sub hl [0, 1, 2, 3, 4, 5] rfl) hF
  · have hF := hF.trans (if_pos c2)
    refine lv_iconst (v := 0) hx hb d_Memory_move_12 (by decide) ?_
    exact W.iret (v := 0) hx hb hr (fun t ht hW => ⟨⟨_, _, rfl, ⟨hF.symm, trivial⟩, ⟨by rw [ht]; exact hP, va_K.moved hW.alike hK, hD⟩⟩, hS.F ht⟩) hS.2.2 d_Memory_move_13
/-- the picture of ColonMachine$Memory.resize -/
def F_Memory_resize (fc : Nat → Int32) (fb : Nat → Int32) (x1 : Int32) (x2 : Int32) : Int32 × (Nat → Int32) × (Nat → Int32) := bd (F_Memory_isBlock fb x1) (fun q1 => if q1 = 0 then (0, (fc, fb)) else (if x2 < 1 then (0, (fc, fb)) else (if x2 ≤ 600 then (bd (F_Memory_sizeOf fb x1) (fun q5 => if q5 < x2 then (bd (F_Memory_canGrow fb x1 q5 x2) (fun q7 => if q7 = 0 then (bd (F_Memory_move fc fb x1 q5 x2) (fun q9 => (q9.1, (q9.2.1, q9.2.2)))) else (bd (F_Memory_grow fc fb x1 q5 x2) (fun q10 => (q10.1, (q10.2.1, q10.2.2)))))) else (bd (F_Memory_mark fb (x1 + x2) (x1 + q5) 0) (fun q11 => (x1, (fc, q11)))))) else (0, (fc, fb)))))
theorem F_Memory_resize_e (fc : Nat → Int32) (fb : Nat → Int32) (x1 : Int32) (x2 : Int32) : F_Memory_resize fc fb x1 x2 = bd (F_Memory_isBlock fb x1) (fun q1 => if q1 = 0 then (0, (fc, fb)) else (if x2 < 1 then (0, (fc, fb)) else (if x2 ≤ 600 then (bd (F_Memory_sizeOf fb x1) (fun q5 => if q5 < x2 then (bd (F_Memory_canGrow fb x1 q5 x2) (fun q7 => if q7 = 0 then (bd (F_Memory_move fc fb x1 q5 x2) (fun q9 => (q9.1, (q9.2.1, q9.2.2)))) else (bd (F_Memory_grow fc fb x1 q5 x2) (fun q10 => (q10.1, (q10.2.1, q10.2.2)))))) else (bd (F_Memory_mark fb (x1 + x2) (x1 + q5) 0) (fun q11 => (x1, (fc, q11)))))) else (0, (fc, fb))))) := rfl
set_option maxHeartbeats 4000000 in
set_option maxRecDepth 100000 in
theorem c_Memory_resize (l : Launch) (D : va_G) (cI cJ cZ cW cT : ClassId) (sz : Nat) (h : Nat) (ac : Nat) (ab : Nat) (he : Int32) (fc : Nat → Int32) (fb : Nat → Int32) (x1 : Int32) (x2 : Int32) (hi : MemOk he) : Met l y_Memory_resize w_Memory_resize ({ frames := 2, cells := 0, slots := 0, locals := 49 }) (va_Pc [.ref h, .int x1, .int x2] (zP D classes (TY cI cJ cZ cW cT) [(h, .inr (4, [.ref ac, .ref ab, .int he])), (ac, .inl (cI, 1000, .inl fc)), (ab, .inl (cI, 600, .inl fb))] sz)) (va_Qi (fun (r : Int32) (u : (Nat → Int32) × (Nat → Int32)) => (r, u) = F_Memory_resize fc fb x1 x2 ∧ (True)) (fun u => zB D classes (TY cI cJ cZ cW cT) (va_A [(h, .inr (4, [.ref ac, .ref ab, .int he])), (ac, .inl (cI, 1000, .inl fc)), (ab, .inl (cI, 600, .inl fb))] sz) [(h, .inr (4, [.ref ac, .ref ab, .int he])), (ac, .inl (cI, 1000, .inl u.1)), (ab, .inl (cI, 600, .inl u.2))]) (va_A [(h, .inr (4, [.ref ac, .ref ab, .int he])), (ac, .inl (cI, 1000, .inl fc)), (ab, .inl (cI, 600, .inl fb))] sz)) 0 0 (va_A [(h, .inr (4, [.ref ac, .ref ab, .int he])), (ac, .inl (cI, 1000, .inl fc)), (ab, .inl (cI, 600, .inl fb))] sz) := by
  refine Met.ofW (cc := b_Memory_resize) (maxL := 4) (ret := (some .int)) (by decide) rfl ?_
  intro p e s m args below meth c s₁ B hml hv
  obtain ⟨rfl, hsz, hP, hK, hD0, hE⟩ := hv
  have hx := B.exec
  have hb := B.bytes
  have hr := B.returns
  have hts := atoms_spec (ws := w_Memory_resize) B.pre
  have hT : ∀ w ∈ TB, w.before _ s = true := fun w h => hts w (List.mem_cons_of_mem _ h)
  have hown : s.vm.findClass "ColonMachine$Memory" = some m.cls := findClass_of_methodNamed B.named
  have hlocks := B.notSynchronized
  subst hsz
  have hD := hD0.self (sz := s.heap.size)
  generalize hAe : va_A [(h, .inr (4, [.ref ac, .ref ab, .int he])), (ac, .inl (cI, 1000, .inl fc)), (ab, .inl (cI, 600, .inl fb))] s.heap.size = A at hD hE ⊢
  have hA : ∀ q : Nat, s.heap.size ≤ q → A q := fun q h => by rw [← hAe]; exact Or.inr h
  have hS : va_S A s.heap s.heap [] := va_S.rf
  have hl := lv_entry [.ref h, .int x1, .int x2] (n := 4) (Nat.le_of_ble_eq_true rfl)
  rw [lg_entry_eq]
  generalize (lg_sl [.ref h, .int x1, .int x2] ++ List.replicate (4 - (lg_sl [.ref h, .int x1, .int x2]).length) Slot.unset).toArray = ls at hl ⊢
  have hl : lv_has ls 4 [(0, .ref h), (1, .int x1), (2, .int x2)] := hl
  have hF := F_Memory_resize_e fc fb x1 x2
  refine lv_aload_n hx hb d_Memory_resize_0 rfl (lv_at hl 0 rfl) ?_
  refine lv_iload_n hx hb d_Memory_resize_1 rfl (lv_at hl 1 rfl) ?_
  refine kN_pi (wr := [(ac, .inl (cI, 1000, .inl fc))]) (zV (wc := [(h, .inr (4, [.ref ac, .ref ab, .int he])), (ab, .inl (cI, 600, .inl fb))]) (As := [.int x1]) (rest := []) (st0 := [.int x1, .ref h]) ⟨hx, hb, hml, hown, hT⟩ (c_Memory_isBlock l D cI cJ cZ cW cT s.heap.size h ac ab he fb x1 hi) (cwV 1 hT (tbV ml_Memory_42 im_Memory_isBlock se_Memory_isBlock in_Memory co_Memory_isBlock) rfl rfl rfl v_Memory_isBlock ⟨Nat.le_of_ble_eq_true rfl, Nat.le_of_ble_eq_true rfl⟩) hK hE hP hD hS hA [0, 2] rfl rfl 0 rfl rfl rfl hl.1 rfl (Nat.le_of_ble_eq_true rfl) d_Memory_resize_2 ⟨Nat.le_of_ble_eq_true rfl, Nat.le_of_ble_eq_true rfl⟩) hP hD hS hA [0, 2] [1] rfl rfl rfl (by decide) [1, 0, 2] rfl rfl (fun q1 H locs e1 k1 hP hD hS => ?_)
  have hP : va_P D classes [(h, .inr (4, [.ref ac, .ref ab, .int he])), (ac, .inl (cI, 1000, .inl fc)), (ab, .inl (cI, 600, .inl fb))] H := hP
  have hD : va_D A [(h, .inr (4, [.ref ac, .ref ab, .int he])), (ac, .inl (cI, 1000, .inl fc)), (ab, .inl (cI, 600, .inl fb))] := hD
  have hF := hF.trans (bd_e e1)
  refine lv_if_eq (tgt := 20) hx hb d_Memory_resize_5 (by decide) (fun c2 => ?_) (fun c2 => ?_)
  · have hF := hF.trans (if_pos c2)
    refine lv_iconst (v := 0) hx hb d_Memory_resize_20 (by decide) ?_
    exact W.iret (v := 0) hx hb hr (fun t ht hW => ⟨⟨_, _, rfl, ⟨hF.symm, trivial⟩, ⟨by rw [ht]; exact hP, va_K.moved hW.alike hK, hD⟩⟩, hS.F ht⟩) hS.2.2 d_Memory_resize_21
  · have hF := hF.trans (if_neg c2)
    refine lv_iload_n hx hb d_Memory_resize_8 rfl (lv_at hl 2 rfl) ?_
    refine lv_iconst (v := 1) hx hb d_Memory_resize_9 (by decide) ?_
    refine lv_icmp_lt (tgt := 20) hx hb d_Memory_resize_10 (by decide) (fun c3 => ?_) (fun c3 => ?_)
    · have hF := hF.trans (if_pos c3)
      refine lv_iconst (v := 0) hx hb d_Memory_resize_20 (by decide) ?_
      exact W.iret (v := 0) hx hb hr (fun t ht hW => ⟨⟨_, _, rfl, ⟨hF.symm, trivial⟩, ⟨by rw [ht]; exact hP, va_K.moved hW.alike hK, hD⟩⟩, hS.F ht⟩) hS.2.2 d_Memory_resize_21
    · have hF := hF.trans (if_neg c3)
      refine lv_iload_n hx hb d_Memory_resize_13 rfl (lv_at hl 2 rfl) ?_
      refine lv_sipush (v := 600) hx hb d_Memory_resize_14 (by decide) ?_
      refine lv_icmp_le (tgt := 22) hx hb d_Memory_resize_17 (by decide) (fun c4 => ?_) (fun c4 => ?_)
      · have hF := hF.trans (if_pos c4)
        refine lv_aload_n hx hb d_Memory_resize_22 rfl (lv_at hl 0 rfl) ?_
        refine lv_iload_n hx hb d_Memory_resize_23 rfl (lv_at hl 1 rfl) ?_
        refine kN_pi (wr := [(ac, .inl (cI, 1000, .inl fc))]) (zV (wc := [(h, .inr (4, [.ref ac, .ref ab, .int he])), (ab, .inl (cI, 600, .inl fb))]) (As := [.int x1]) (rest := []) (st0 := [.int x1, .ref h]) ⟨hx, hb, hml, hown, hT⟩ (c_Memory_sizeOf l D cI cJ cZ cW cT H.size h ac ab he fb x1 hi) (cwV 1 hT (tbV ml_Memory_45 im_Memory_sizeOf se_Memory_sizeOf in_Memory co_Memory_sizeOf) rfl rfl rfl v_Memory_sizeOf ⟨Nat.le_of_ble_eq_true rfl, Nat.le_of_ble_eq_true rfl⟩) hK hE hP hD hS hA [0, 2] rfl rfl 0 rfl rfl rfl hl.1 rfl (Nat.le_of_ble_eq_true rfl) d_Memory_resize_24 ⟨Nat.le_of_ble_eq_true rfl, Nat.le_of_ble_eq_true rfl⟩) hP hD hS hA [0, 2] [1] rfl rfl rfl (by decide) [1, 0, 2] rfl rfl (fun q5 H locs e5 k5 hP hD hS => ?_)
        have hP : va_P D classes [(h, .inr (4, [.ref ac, .ref ab, .int he])), (ac, .inl (cI, 1000, .inl fc)), (ab, .inl (cI, 600, .inl fb))] H := hP
        have hD : va_D A [(h, .inr (4, [.ref ac, .ref ab, .int he])), (ac, .inl (cI, 1000, .inl fc)), (ab, .inl (cI, 600, .inl fb))] := hD
        have hF := hF.trans (bd_e e5)
        refine lv_istore_n (lv' := [(3, .int q5), (0, .ref h), (1, .int x1), (2, .int x2)]) hx hb d_Memory_resize_27 rfl hl (by decide) rfl (fun ls hl => ?_)
        refine lv_iload_n hx hb d_Memory_resize_28 rfl (lv_at hl 3 rfl) ?_
        refine lv_iload_n hx hb d_Memory_resize_29 rfl (lv_at hl 0 rfl) ?_
        refine lv_icmp_gt (tgt := 46) hx hb d_Memory_resize_30 (by decide) (fun c6 => ?_) (fun c6 => ?_)
        · have hF := hF.trans (if_pos c6)
          refine lv_aload_n hx hb d_Memory_resize_46 rfl (lv_at hl 1 rfl) ?_
          refine lv_iload_n hx hb d_Memory_resize_47 rfl (lv_at hl 2 rfl) ?_
          refine lv_iload_n hx hb d_Memory_resize_48 rfl (lv_at hl 0 rfl) ?_
          refine lv_iload_n hx hb d_Memory_resize_49 rfl (lv_at hl 3 rfl) ?_
          refine kN_pi (wr := [(ac, .inl (cI, 1000, .inl fc))]) (zV (wc := [(h, .inr (4, [.ref ac, .ref ab, .int he])), (ab, .inl (cI, 600, .inl fb))]) (As := [.int x1, .int q5, .int x2]) (rest := []) (st0 := [.int x2, .int q5, .int x1, .ref h]) ⟨hx, hb, hml, hown, hT⟩ (c_Memory_canGrow l D cI cJ cZ cW cT H.size h ac ab he fb x1 q5 x2 hi) (cwV 3 hT (tbV ml_Memory_48 im_Memory_canGrow se_Memory_canGrow in_Memory co_Memory_canGrow) rfl rfl rfl v_Memory_canGrow ⟨Nat.le_of_ble_eq_true rfl, Nat.le_of_ble_eq_true rfl⟩) hK hE hP hD hS hA [0, 2] rfl rfl 0 rfl rfl rfl hl.1 rfl (Nat.le_of_ble_eq_true rfl) d_Memory_resize_50 ⟨Nat.le_of_ble_eq_true rfl, Nat.le_of_ble_eq_true rfl⟩) hP hD hS hA [0, 2] [1] rfl rfl rfl (by decide) [1, 0, 2] rfl rfl (fun q7 H locs e7 k7 hP hD hS => ?_)
          have hP : va_P D classes [(h, .inr (4, [.ref ac, .ref ab, .int he])), (ac, .inl (cI, 1000, .inl fc)), (ab, .inl (cI, 600, .inl fb))] H := hP
          have hD : va_D A [(h, .inr (4, [.ref ac, .ref ab, .int he])), (ac, .inl (cI, 1000, .inl fc)), (ab, .inl (cI, 600, .inl fb))] := hD
          have hF := hF.trans (bd_e e7)
          refine lv_if_eq (tgt := 66) hx hb d_Memory_resize_53 (by decide) (fun c8 => ?_) (fun c8 => ?_)
          · have hF := hF.trans (if_pos c8)
            refine lv_aload_n hx hb d_Memory_resize_66 rfl (lv_at hl 1 rfl) ?_
            refine lv_iload_n hx hb d_Memory_resize_67 rfl (lv_at hl 2 rfl) ?_
            refine lv_iload_n hx hb d_Memory_resize_68 rfl (lv_at hl 0 rfl) ?_
            refine lv_iload_n hx hb d_Memory_resize_69 rfl (lv_at hl 3 rfl) ?_
            refine kN_si (wr := []) (fun u : (Nat → Int32) × (Nat → Int32) => [(h, .inr (4, [.ref ac, .ref ab, .int he])), (ac, .inl (cI, 1000, .inl u.1)), (ab, .inl (cI, 600, .inl u.2))]) (zV (wc := [(h, .inr (4, [.ref ac, .ref ab, .int he])), (ac, .inl (cI, 1000, .inl fc)), (ab, .inl (cI, 600, .inl fb))]) (As := [.int x1, .int q5, .int x2]) (rest := []) (st0 := [.int x2, .int q5, .int x1, .ref h]) ⟨hx, hb, hml, hown, hT⟩ (c_Memory_move l D cI cJ cZ cW cT H.size h ac ab he fc fb x1 q5 x2 hi) (cwV 3 hT (tbV ml_Memory_56 im_Memory_move se_Memory_move in_Memory co_Memory_move) rfl rfl rfl v_Memory_move ⟨Nat.le_of_ble_eq_true rfl, Nat.le_of_ble_eq_true rfl⟩) hK hE hP hD hS hA [0, 1, 2] rfl rfl 0 rfl rfl rfl hl.1 rfl (Nat.le_of_ble_eq_true rfl) d_Memory_resize_70 ⟨Nat.le_of_ble_eq_true rfl, Nat.le_of_ble_eq_true rfl⟩) hP hD hS hA [0, 1, 2] [] rfl rfl rfl (by decide) [0, 1, 2] rfl (fun u => rfl) (fun q9 H locs e9 k9 hP hD hS => ?_)
            have hP : va_P D classes [(h, .inr (4, [.ref ac, .ref ab, .int he])), (ac, .inl (cI, 1000, .inl q9.2.1)), (ab, .inl (cI, 600, .inl q9.2.2))] H := hP
            have hD : va_D A [(h, .inr (4, [.ref ac, .ref ab, .int he])), (ac, .inl (cI, 1000, .inl q9.2.1)), (ab, .inl (cI, 600, .inl q9.2.2))] := hD
            have hF := hF.trans (bd_e e9)
            exact W.iret (v := q9.1) hx hb hr (fun t ht hW => ⟨⟨_, _, rfl, ⟨hF.symm, trivial⟩, ⟨by rw [ht]; exact hP, va_K.moved hW.alike hK, hD⟩⟩, hS.F ht⟩) hS.2.2 d_Memory_resize_73
          · have hF := hF.trans (if_neg c8)
            refine lv_aload_n hx hb d_Memory_resize_56 rfl (lv_at hl 1 rfl) ?_
            refine lv_iload_n hx hb d_Memory_resize_57 rfl (lv_at hl 2 rfl) ?_
            refine lv_iload_n hx hb d_Memory_resize_58 rfl (lv_at hl 0 rfl) ?_
            refine lv_iload_n hx hb d_Memory_resize_59 rfl (lv_at hl 3 rfl) ?_
            refine kN_si (wr := []) (fun u : (Nat → Int32) × (Nat → Int32) => [(h, .inr (4, [.ref ac, .ref ab, .int he])), (ac, .inl (cI, 1000, .inl u.1)), (ab, .inl (cI, 600, .inl u.2))]) (zV (wc := [(h, .inr (4, [.ref ac, .ref ab, .int he])), (ac, .inl (cI, 1000, .inl fc)), (ab, .inl (cI, 600, .inl fb))]) (As := [.int x1, .int q5, .int x2]) (rest := []) (st0 := [.int x2, .int q5, .int x1, .ref h]) ⟨hx, hb, hml, hown, hT⟩ (c_Memory_grow l D cI cJ cZ cW cT H.size h ac ab he fc fb x1 q5 x2 hi) (cwV 3 hT (tbV ml_Memory_52 im_Memory_grow se_Memory_grow in_Memory co_Memory_grow) rfl rfl rfl v_Memory_grow ⟨Nat.le_of_ble_eq_true rfl, Nat.le_of_ble_eq_true rfl⟩) hK hE hP hD hS hA [0, 1, 2] rfl rfl 0 rfl rfl rfl hl.1 rfl (Nat.le_of_ble_eq_true rfl) d_Memory_resize_60 ⟨Nat.le_of_ble_eq_true rfl, Nat.le_of_ble_eq_true rfl⟩) hP hD hS hA [0, 1, 2] [] rfl rfl rfl (by decide) [0, 1, 2] rfl (fun u => rfl) (fun q10 H locs e10 k10 hP hD hS => ?_)
            have hP : va_P D classes [(h, .inr (4, [.ref ac, .ref ab, .int he])), (ac, .inl (cI, 1000, .inl q10.2.1)), (ab, .inl (cI, 600, .inl q10.2.2))] H := hP
            have hD : va_D A [(h, .inr (4, [.ref ac, .ref ab, .int he])), (ac, .inl (cI, 1000, .inl q10.2.1)), (ab, .inl (cI, 600, .inl q10.2.2))] := hD
            have hF := hF.trans (bd_e e10)
            refine lv_goto (tgt := 73) hx hb d_Memory_resize_63 (by decide) ?_
            exact W.iret (v := q10.1) hx hb hr (fun t ht hW => ⟨⟨_, _, rfl, ⟨hF.symm, trivial⟩, ⟨by rw [ht]; exact hP, va_K.moved hW.alike hK, hD⟩⟩, hS.F ht⟩) hS.2.2 d_Memory_resize_73
        · have hF := hF.trans (if_neg c6)
          refine lv_aload_n hx hb d_Memory_resize_33 rfl (lv_at hl 1 rfl) ?_
          refine lv_iload_n hx hb d_Memory_resize_34 rfl (lv_at hl 2 rfl) ?_
          refine lv_iload_n hx hb d_Memory_resize_35 rfl (lv_at hl 3 rfl) ?_
          refine lv_iadd hx hb d_Memory_resize_36 ?_
          refine lv_iload_n hx hb d_Memory_resize_37 rfl (lv_at hl 2 rfl) ?_
          refine lv_iload_n hx hb d_Memory_resize_38 rfl (lv_at hl 0 rfl) ?_
          refine lv_iadd hx hb d_Memory_resize_39 ?_
          refine lv_iconst (v := 0) hx hb d_Memory_resize_40 (by decide) ?_
          refine kN_sv (wr := [(ac, .inl (cI, 1000, .inl fc))]) (fun u : (Nat → Int32) => [(h, .inr (4, [.ref ac, .ref ab, .int he])), (ac, .inl (cI, 1000, .inl fc)), (ab, .inl (cI, 600, .inl u))]) (zV (wc := [(h, .inr (4, [.ref ac, .ref ab, .int he])), (ab, .inl (cI, 600, .inl fb))]) (As := [.int (x1 + x2), .int (x1 + q5), .int 0]) (rest := []) (st0 := [.int 0, .int (x1 + q5), .int (x1 + x2), .ref h]) ⟨hx, hb, hml, hown, hT⟩ (c_Memory_mark l D cI cJ cZ cW cT H.size h ac ab he fb (x1 + x2) (x1 + q5) 0 hi) (cwV 3 hT (tbV ml_Memory_34 im_Memory_mark se_Memory_mark in_Memory co_Memory_mark) rfl rfl rfl v_Memory_mark ⟨Nat.le_of_ble_eq_true rfl, Nat.le_of_ble_eq_true rfl⟩) hK hE hP hD hS hA [0, 2] rfl rfl 0 rfl rfl rfl hl.1 rfl (Nat.le_of_ble_eq_true rfl) d_Memory_resize_41 ⟨Nat.le_of_ble_eq_true rfl, Nat.le_of_ble_eq_true rfl⟩) hP hD hS hA [0, 2] [1] rfl rfl rfl (by decide) [1, 0, 2] rfl (fun u => rfl) (fun q11 H locs e11 k11 hP hD hS => ?_)
          have hP : va_P D classes [(h, .inr (4, [.ref ac, .ref ab, .int he])), (ac, .inl (cI, 1000, .inl fc)), (ab, .inl (cI, 600, .inl q11))] H := hP
          have hD : va_D A [(h, .inr (4, [.ref ac, .ref ab, .int he])), (ac, .inl (cI, 1000, .inl fc)), (ab, .inl (cI, 600, .inl q11))] := hD
          have hF := hF.trans (bd_e e11)
          refine lv_iload_n hx hb d_Memory_resize_44 rfl (lv_at hl 2 rfl) ?_
          exact W.iret (v := x1) hx hb hr (fun t ht hW => ⟨⟨_, _, rfl, ⟨hF.symm, trivial⟩, ⟨by rw [ht]; exact hP, va_K.moved hW.alike hK, hD⟩⟩, hS.F ht⟩) hS.2.2 d_Memory_resize_45
      · have hF := hF.trans (if_neg c4)
        refine lv_iconst (v := 0) hx hb d_Memory_resize_20 (by decide) ?_
        exact W.iret (v := 0) hx hb hr (fun t ht hW => ⟨⟨_, _, rfl, ⟨hF.symm, trivial⟩, ⟨by rw [ht]; exact hP, va_K.moved hW.alike hK, hD⟩⟩, hS.F ht⟩) hS.2.2 d_Memory_resize_21
