section
-- ===== PART A: goes FIRST, ahead of the names: the tables' words, and 'selects' of the private methods out of them =====
/-- a private method of a class that the tables say can be made, by its rows of tables_1 -/
def lw_okq (q : MethodName × Nat) : Prop := (q.1.cls ≠ "java/lang/invoke/MethodHandle" ∧ q.1.cls ≠ "java/lang/invoke/VarHandle") ∧ Cond.instantiable q.1.cls q.2 ∈ tables_1 ∧ Cond.privateMethod q.1 ∈ tables_1 ∧ Cond.instanceMethod q.1 ∈ tables_1
theorem lw_p0 : lw_okq (⟨"java/lang/Throwable", "fillInStackTrace", "(I)Ljava/lang/Throwable;"⟩, 6) := ⟨⟨by decide +kernel, by decide +kernel⟩, List.mem_of_getElem? (i := 350) (by decide +kernel), List.mem_of_getElem? (i := 348) (by decide +kernel), List.mem_of_getElem? (i := 349) (by decide +kernel)⟩
theorem lw_p1 : lw_okq (⟨"ColonMachine", "nothingIsLeft", "()Z"⟩, 10) := ⟨⟨by decide +kernel, by decide +kernel⟩, List.mem_of_getElem? (i := 32) (by decide +kernel), List.mem_of_getElem? (i := 424) (by decide +kernel), List.mem_of_getElem? (i := 425) (by decide +kernel)⟩
theorem lw_p2 : lw_okq (⟨"ColonMachine", "interpret", "()I"⟩, 10) := ⟨⟨by decide +kernel, by decide +kernel⟩, List.mem_of_getElem? (i := 32) (by decide +kernel), List.mem_of_getElem? (i := 436) (by decide +kernel), List.mem_of_getElem? (i := 437) (by decide +kernel)⟩
theorem lw_p3 : lw_okq (⟨"ColonMachine$Text", "digitsBegin", "()I"⟩, 5) := ⟨⟨by decide +kernel, by decide +kernel⟩, List.mem_of_getElem? (i := 105) (by decide +kernel), List.mem_of_getElem? (i := 518) (by decide +kernel), List.mem_of_getElem? (i := 519) (by decide +kernel)⟩
theorem lw_p4 : lw_okq (⟨"ColonMachine$Compiler", "begin", "()I"⟩, 10) := ⟨⟨by decide +kernel, by decide +kernel⟩, List.mem_of_getElem? (i := 142) (by decide +kernel), List.mem_of_getElem? (i := 532) (by decide +kernel), List.mem_of_getElem? (i := 533) (by decide +kernel)⟩
theorem lw_p5 : lw_okq (⟨"ColonMachine$Compiler", "finish", "()I"⟩, 10) := ⟨⟨by decide +kernel, by decide +kernel⟩, List.mem_of_getElem? (i := 142) (by decide +kernel), List.mem_of_getElem? (i := 538) (by decide +kernel), List.mem_of_getElem? (i := 539) (by decide +kernel)⟩
theorem lw_p6 : lw_okq (⟨"ColonMachine$Compiler", "added", "(II)I"⟩, 10) := ⟨⟨by decide +kernel, by decide +kernel⟩, List.mem_of_getElem? (i := 142) (by decide +kernel), List.mem_of_getElem? (i := 550) (by decide +kernel), List.mem_of_getElem? (i := 551) (by decide +kernel)⟩
theorem lw_p7 : lw_okq (⟨"ColonMachine$Compiler", "addedItem", "(LColonMachine$Item;)I"⟩, 10) := ⟨⟨by decide +kernel, by decide +kernel⟩, List.mem_of_getElem? (i := 142) (by decide +kernel), List.mem_of_getElem? (i := 574) (by decide +kernel), List.mem_of_getElem? (i := 575) (by decide +kernel)⟩
theorem lw_p8 : lw_okq (⟨"ColonMachine$Compiler", "skipped", "(I)I"⟩, 10) := ⟨⟨by decide +kernel, by decide +kernel⟩, List.mem_of_getElem? (i := 142) (by decide +kernel), List.mem_of_getElem? (i := 871) (by decide +kernel), List.mem_of_getElem? (i := 872) (by decide +kernel)⟩
theorem lw_p9 : lw_okq (⟨"ColonMachine$Text", "placeOf", "(I)I"⟩, 5) := ⟨⟨by decide +kernel, by decide +kernel⟩, List.mem_of_getElem? (i := 105) (by decide +kernel), List.mem_of_getElem? (i := 879) (by decide +kernel), List.mem_of_getElem? (i := 880) (by decide +kernel)⟩
theorem lw_p10 : lw_okq (⟨"ColonMachine$Compiler", "say", "()I"⟩, 10) := ⟨⟨by decide +kernel, by decide +kernel⟩, List.mem_of_getElem? (i := 142) (by decide +kernel), List.mem_of_getElem? (i := 883) (by decide +kernel), List.mem_of_getElem? (i := 884) (by decide +kernel)⟩
theorem lw_p11 : lw_okq (⟨"ColonMachine$Out", "hasRoomFor", "(I)Z"⟩, 2) := ⟨⟨by decide +kernel, by decide +kernel⟩, List.mem_of_getElem? (i := 92) (by decide +kernel), List.mem_of_getElem? (i := 906) (by decide +kernel), List.mem_of_getElem? (i := 907) (by decide +kernel)⟩
theorem lw_p12 : lw_okq (⟨"ColonMachine$Compiler", "tick", "()I"⟩, 10) := ⟨⟨by decide +kernel, by decide +kernel⟩, List.mem_of_getElem? (i := 142) (by decide +kernel), List.mem_of_getElem? (i := 911) (by decide +kernel), List.mem_of_getElem? (i := 912) (by decide +kernel)⟩
theorem lw_p13 : lw_okq (⟨"ColonMachine$Compiler", "structure", "(I)I"⟩, 10) := ⟨⟨by decide +kernel, by decide +kernel⟩, List.mem_of_getElem? (i := 142) (by decide +kernel), List.mem_of_getElem? (i := 920) (by decide +kernel), List.mem_of_getElem? (i := 921) (by decide +kernel)⟩
theorem lw_p14 : lw_okq (⟨"ColonMachine$Compiler", "goesTogether", "(I)Z"⟩, 10) := ⟨⟨by decide +kernel, by decide +kernel⟩, List.mem_of_getElem? (i := 142) (by decide +kernel), List.mem_of_getElem? (i := 928) (by decide +kernel), List.mem_of_getElem? (i := 929) (by decide +kernel)⟩
theorem lw_p15 : lw_okq (⟨"ColonMachine$Compiler", "isDoOpen", "()Z"⟩, 10) := ⟨⟨by decide +kernel, by decide +kernel⟩, List.mem_of_getElem? (i := 142) (by decide +kernel), List.mem_of_getElem? (i := 936) (by decide +kernel), List.mem_of_getElem? (i := 937) (by decide +kernel)⟩
def lw_privs_1 : List (MethodName × Nat) := [(⟨"java/lang/Throwable", "fillInStackTrace", "(I)Ljava/lang/Throwable;"⟩, 6), (⟨"ColonMachine", "nothingIsLeft", "()Z"⟩, 10), (⟨"ColonMachine", "interpret", "()I"⟩, 10), (⟨"ColonMachine$Text", "digitsBegin", "()I"⟩, 5), (⟨"ColonMachine$Compiler", "begin", "()I"⟩, 10), (⟨"ColonMachine$Compiler", "finish", "()I"⟩, 10), (⟨"ColonMachine$Compiler", "added", "(II)I"⟩, 10), (⟨"ColonMachine$Compiler", "addedItem", "(LColonMachine$Item;)I"⟩, 10), (⟨"ColonMachine$Compiler", "skipped", "(I)I"⟩, 10), (⟨"ColonMachine$Text", "placeOf", "(I)I"⟩, 5), (⟨"ColonMachine$Compiler", "say", "()I"⟩, 10), (⟨"ColonMachine$Out", "hasRoomFor", "(I)Z"⟩, 2), (⟨"ColonMachine$Compiler", "tick", "()I"⟩, 10), (⟨"ColonMachine$Compiler", "structure", "(I)I"⟩, 10), (⟨"ColonMachine$Compiler", "goesTogether", "(I)Z"⟩, 10), (⟨"ColonMachine$Compiler", "isDoOpen", "()Z"⟩, 10)]
theorem lw_r1 : ∀ q ∈ lw_privs_1, lw_okq q := List.forall_mem_cons.mpr ⟨lw_p0, List.forall_mem_cons.mpr ⟨lw_p1, List.forall_mem_cons.mpr ⟨lw_p2, List.forall_mem_cons.mpr ⟨lw_p3, List.forall_mem_cons.mpr ⟨lw_p4, List.forall_mem_cons.mpr ⟨lw_p5, List.forall_mem_cons.mpr ⟨lw_p6, List.forall_mem_cons.mpr ⟨lw_p7, List.forall_mem_cons.mpr ⟨lw_p8, List.forall_mem_cons.mpr ⟨lw_p9, List.forall_mem_cons.mpr ⟨lw_p10, List.forall_mem_cons.mpr ⟨lw_p11, List.forall_mem_cons.mpr ⟨lw_p12, List.forall_mem_cons.mpr ⟨lw_p13, List.forall_mem_cons.mpr ⟨lw_p14, List.forall_mem_cons.mpr ⟨lw_p15, fun _ h => absurd h List.not_mem_nil⟩⟩⟩⟩⟩⟩⟩⟩⟩⟩⟩⟩⟩⟩⟩⟩
theorem lw_p16 : lw_okq (⟨"ColonMachine$Compiler", "opened", "(II)I"⟩, 10) := ⟨⟨by decide +kernel, by decide +kernel⟩, List.mem_of_getElem? (i := 142) (by decide +kernel), List.mem_of_getElem? (i := 941) (by decide +kernel), List.mem_of_getElem? (i := 942) (by decide +kernel)⟩
theorem lw_p17 : lw_okq (⟨"ColonMachine$Compiler", "open", "(I)I"⟩, 10) := ⟨⟨by decide +kernel, by decide +kernel⟩, List.mem_of_getElem? (i := 142) (by decide +kernel), List.mem_of_getElem? (i := 945) (by decide +kernel), List.mem_of_getElem? (i := 946) (by decide +kernel)⟩
theorem lw_p18 : lw_okq (⟨"ColonMachine$Compiler", "compileElse", "()I"⟩, 10) := ⟨⟨by decide +kernel, by decide +kernel⟩, List.mem_of_getElem? (i := 142) (by decide +kernel), List.mem_of_getElem? (i := 953) (by decide +kernel), List.mem_of_getElem? (i := 954) (by decide +kernel)⟩
theorem lw_p19 : lw_okq (⟨"ColonMachine$Compiler", "close", "()I"⟩, 10) := ⟨⟨by decide +kernel, by decide +kernel⟩, List.mem_of_getElem? (i := 142) (by decide +kernel), List.mem_of_getElem? (i := 957) (by decide +kernel), List.mem_of_getElem? (i := 958) (by decide +kernel)⟩
theorem lw_p20 : lw_okq (⟨"ColonMachine$Compiler", "aimed", "(II)I"⟩, 10) := ⟨⟨by decide +kernel, by decide +kernel⟩, List.mem_of_getElem? (i := 142) (by decide +kernel), List.mem_of_getElem? (i := 969) (by decide +kernel), List.mem_of_getElem? (i := 970) (by decide +kernel)⟩
theorem lw_p21 : lw_okq (⟨"ColonMachine$Compiler", "back", "(I)I"⟩, 10) := ⟨⟨by decide +kernel, by decide +kernel⟩, List.mem_of_getElem? (i := 142) (by decide +kernel), List.mem_of_getElem? (i := 973) (by decide +kernel), List.mem_of_getElem? (i := 974) (by decide +kernel)⟩
theorem lw_p22 : lw_okq (⟨"ColonMachine$Compiler", "compileRepeat", "()I"⟩, 10) := ⟨⟨by decide +kernel, by decide +kernel⟩, List.mem_of_getElem? (i := 142) (by decide +kernel), List.mem_of_getElem? (i := 977) (by decide +kernel), List.mem_of_getElem? (i := 978) (by decide +kernel)⟩
theorem lw_p23 : lw_okq (⟨"ColonMachine$Compiler", "compileLoop", "(I)I"⟩, 10) := ⟨⟨by decide +kernel, by decide +kernel⟩, List.mem_of_getElem? (i := 142) (by decide +kernel), List.mem_of_getElem? (i := 981) (by decide +kernel), List.mem_of_getElem? (i := 982) (by decide +kernel)⟩
theorem lw_p24 : lw_okq (⟨"ColonMachine", "pushed", "(I)I"⟩, 10) := ⟨⟨by decide +kernel, by decide +kernel⟩, List.mem_of_getElem? (i := 32) (by decide +kernel), List.mem_of_getElem? (i := 1005) (by decide +kernel), List.mem_of_getElem? (i := 1006) (by decide +kernel)⟩
theorem lw_p25 : lw_okq (⟨"ColonMachine", "execute", "(I)I"⟩, 10) := ⟨⟨by decide +kernel, by decide +kernel⟩, List.mem_of_getElem? (i := 32) (by decide +kernel), List.mem_of_getElem? (i := 1011) (by decide +kernel), List.mem_of_getElem? (i := 1012) (by decide +kernel)⟩
theorem lw_p26 : lw_okq (⟨"ColonMachine", "refusalOfToken", "(Z)I"⟩, 10) := ⟨⟨by decide +kernel, by decide +kernel⟩, List.mem_of_getElem? (i := 32) (by decide +kernel), List.mem_of_getElem? (i := 1015) (by decide +kernel), List.mem_of_getElem? (i := 1016) (by decide +kernel)⟩
theorem lw_p27 : lw_okq (⟨"ColonMachine$Calls", "add", "(IIII)V"⟩, 5) := ⟨⟨by decide +kernel, by decide +kernel⟩, List.mem_of_getElem? (i := 54) (by decide +kernel), List.mem_of_getElem? (i := 1034) (by decide +kernel), List.mem_of_getElem? (i := 1035) (by decide +kernel)⟩
theorem lw_p28 : lw_okq (⟨"ColonMachine$Primitives", "refusal", "(I)I"⟩, 7) := ⟨⟨by decide +kernel, by decide +kernel⟩, List.mem_of_getElem? (i := 183) (by decide +kernel), List.mem_of_getElem? (i := 1042) (by decide +kernel), List.mem_of_getElem? (i := 1043) (by decide +kernel)⟩
theorem lw_p29 : lw_okq (⟨"ColonMachine$Primitives", "shuffle", "(I)I"⟩, 7) := ⟨⟨by decide +kernel, by decide +kernel⟩, List.mem_of_getElem? (i := 183) (by decide +kernel), List.mem_of_getElem? (i := 1067) (by decide +kernel), List.mem_of_getElem? (i := 1068) (by decide +kernel)⟩
theorem lw_p30 : lw_okq (⟨"ColonMachine$Primitives", "put", "(I)I"⟩, 7) := ⟨⟨by decide +kernel, by decide +kernel⟩, List.mem_of_getElem? (i := 183) (by decide +kernel), List.mem_of_getElem? (i := 1072) (by decide +kernel), List.mem_of_getElem? (i := 1073) (by decide +kernel)⟩
theorem lw_p31 : lw_okq (⟨"ColonMachine$Primitives", "dropped", "(I)I"⟩, 7) := ⟨⟨by decide +kernel, by decide +kernel⟩, List.mem_of_getElem? (i := 183) (by decide +kernel), List.mem_of_getElem? (i := 1077) (by decide +kernel), List.mem_of_getElem? (i := 1078) (by decide +kernel)⟩
def lw_privs_2 : List (MethodName × Nat) := [(⟨"ColonMachine$Compiler", "opened", "(II)I"⟩, 10), (⟨"ColonMachine$Compiler", "open", "(I)I"⟩, 10), (⟨"ColonMachine$Compiler", "compileElse", "()I"⟩, 10), (⟨"ColonMachine$Compiler", "close", "()I"⟩, 10), (⟨"ColonMachine$Compiler", "aimed", "(II)I"⟩, 10), (⟨"ColonMachine$Compiler", "back", "(I)I"⟩, 10), (⟨"ColonMachine$Compiler", "compileRepeat", "()I"⟩, 10), (⟨"ColonMachine$Compiler", "compileLoop", "(I)I"⟩, 10), (⟨"ColonMachine", "pushed", "(I)I"⟩, 10), (⟨"ColonMachine", "execute", "(I)I"⟩, 10), (⟨"ColonMachine", "refusalOfToken", "(Z)I"⟩, 10), (⟨"ColonMachine$Calls", "add", "(IIII)V"⟩, 5), (⟨"ColonMachine$Primitives", "refusal", "(I)I"⟩, 7), (⟨"ColonMachine$Primitives", "shuffle", "(I)I"⟩, 7), (⟨"ColonMachine$Primitives", "put", "(I)I"⟩, 7), (⟨"ColonMachine$Primitives", "dropped", "(I)I"⟩, 7)]
theorem lw_r2 : ∀ q ∈ lw_privs_2, lw_okq q := List.forall_mem_cons.mpr ⟨lw_p16, List.forall_mem_cons.mpr ⟨lw_p17, List.forall_mem_cons.mpr ⟨lw_p18, List.forall_mem_cons.mpr ⟨lw_p19, List.forall_mem_cons.mpr ⟨lw_p20, List.forall_mem_cons.mpr ⟨lw_p21, List.forall_mem_cons.mpr ⟨lw_p22, List.forall_mem_cons.mpr ⟨lw_p23, List.forall_mem_cons.mpr ⟨lw_p24, List.forall_mem_cons.mpr ⟨lw_p25, List.forall_mem_cons.mpr ⟨lw_p26, List.forall_mem_cons.mpr ⟨lw_p27, List.forall_mem_cons.mpr ⟨lw_p28, List.forall_mem_cons.mpr ⟨lw_p29, List.forall_mem_cons.mpr ⟨lw_p30, List.forall_mem_cons.mpr ⟨lw_p31, fun _ h => absurd h List.not_mem_nil⟩⟩⟩⟩⟩⟩⟩⟩⟩⟩⟩⟩⟩⟩⟩⟩
theorem lw_p32 : lw_okq (⟨"ColonMachine$Primitives", "swap", "()I"⟩, 7) := ⟨⟨by decide +kernel, by decide +kernel⟩, List.mem_of_getElem? (i := 183) (by decide +kernel), List.mem_of_getElem? (i := 1082) (by decide +kernel), List.mem_of_getElem? (i := 1083) (by decide +kernel)⟩
theorem lw_p33 : lw_okq (⟨"ColonMachine$Primitives", "rot", "()I"⟩, 7) := ⟨⟨by decide +kernel, by decide +kernel⟩, List.mem_of_getElem? (i := 183) (by decide +kernel), List.mem_of_getElem? (i := 1090) (by decide +kernel), List.mem_of_getElem? (i := 1091) (by decide +kernel)⟩
theorem lw_p34 : lw_okq (⟨"ColonMachine$Primitives", "nip", "()I"⟩, 7) := ⟨⟨by decide +kernel, by decide +kernel⟩, List.mem_of_getElem? (i := 183) (by decide +kernel), List.mem_of_getElem? (i := 1094) (by decide +kernel), List.mem_of_getElem? (i := 1095) (by decide +kernel)⟩
theorem lw_p35 : lw_okq (⟨"ColonMachine$Primitives", "tuck", "()I"⟩, 7) := ⟨⟨by decide +kernel, by decide +kernel⟩, List.mem_of_getElem? (i := 183) (by decide +kernel), List.mem_of_getElem? (i := 1099) (by decide +kernel), List.mem_of_getElem? (i := 1100) (by decide +kernel)⟩
theorem lw_p36 : lw_okq (⟨"ColonMachine$Primitives", "maybeDup", "()I"⟩, 7) := ⟨⟨by decide +kernel, by decide +kernel⟩, List.mem_of_getElem? (i := 183) (by decide +kernel), List.mem_of_getElem? (i := 1103) (by decide +kernel), List.mem_of_getElem? (i := 1104) (by decide +kernel)⟩
theorem lw_p37 : lw_okq (⟨"ColonMachine$Primitives", "pickCell", "()I"⟩, 7) := ⟨⟨by decide +kernel, by decide +kernel⟩, List.mem_of_getElem? (i := 183) (by decide +kernel), List.mem_of_getElem? (i := 1107) (by decide +kernel), List.mem_of_getElem? (i := 1108) (by decide +kernel)⟩
theorem lw_p38 : lw_okq (⟨"ColonMachine$Primitives", "twoDup", "()I"⟩, 7) := ⟨⟨by decide +kernel, by decide +kernel⟩, List.mem_of_getElem? (i := 183) (by decide +kernel), List.mem_of_getElem? (i := 1111) (by decide +kernel), List.mem_of_getElem? (i := 1112) (by decide +kernel)⟩
theorem lw_p39 : lw_okq (⟨"ColonMachine$Primitives", "divide", "(I)I"⟩, 7) := ⟨⟨by decide +kernel, by decide +kernel⟩, List.mem_of_getElem? (i := 183) (by decide +kernel), List.mem_of_getElem? (i := 1115) (by decide +kernel), List.mem_of_getElem? (i := 1116) (by decide +kernel)⟩
theorem lw_p40 : lw_okq (⟨"ColonMachine$Primitives", "calculate", "(I)I"⟩, 7) := ⟨⟨by decide +kernel, by decide +kernel⟩, List.mem_of_getElem? (i := 183) (by decide +kernel), List.mem_of_getElem? (i := 1128) (by decide +kernel), List.mem_of_getElem? (i := 1129) (by decide +kernel)⟩
theorem lw_p41 : lw_okq (⟨"ColonMachine$Primitives", "useReturns", "(I)I"⟩, 7) := ⟨⟨by decide +kernel, by decide +kernel⟩, List.mem_of_getElem? (i := 183) (by decide +kernel), List.mem_of_getElem? (i := 1151) (by decide +kernel), List.mem_of_getElem? (i := 1152) (by decide +kernel)⟩
theorem lw_p42 : lw_okq (⟨"ColonMachine$Primitives", "useMemory", "(I)I"⟩, 7) := ⟨⟨by decide +kernel, by decide +kernel⟩, List.mem_of_getElem? (i := 183) (by decide +kernel), List.mem_of_getElem? (i := 1163) (by decide +kernel), List.mem_of_getElem? (i := 1164) (by decide +kernel)⟩
theorem lw_p43 : lw_okq (⟨"ColonMachine$Primitives", "read", "()I"⟩, 7) := ⟨⟨by decide +kernel, by decide +kernel⟩, List.mem_of_getElem? (i := 183) (by decide +kernel), List.mem_of_getElem? (i := 1167) (by decide +kernel), List.mem_of_getElem? (i := 1168) (by decide +kernel)⟩
theorem lw_p44 : lw_okq (⟨"ColonMachine$Primitives", "write", "(I)I"⟩, 7) := ⟨⟨by decide +kernel, by decide +kernel⟩, List.mem_of_getElem? (i := 183) (by decide +kernel), List.mem_of_getElem? (i := 1179) (by decide +kernel), List.mem_of_getElem? (i := 1180) (by decide +kernel)⟩
theorem lw_p45 : lw_okq (⟨"ColonMachine$Primitives", "comma", "()I"⟩, 7) := ⟨⟨by decide +kernel, by decide +kernel⟩, List.mem_of_getElem? (i := 183) (by decide +kernel), List.mem_of_getElem? (i := 1187) (by decide +kernel), List.mem_of_getElem? (i := 1188) (by decide +kernel)⟩
theorem lw_p46 : lw_okq (⟨"ColonMachine$Primitives", "allot", "()I"⟩, 7) := ⟨⟨by decide +kernel, by decide +kernel⟩, List.mem_of_getElem? (i := 183) (by decide +kernel), List.mem_of_getElem? (i := 1199) (by decide +kernel), List.mem_of_getElem? (i := 1200) (by decide +kernel)⟩
theorem lw_p47 : lw_okq (⟨"ColonMachine$Primitives", "say", "(I)I"⟩, 7) := ⟨⟨by decide +kernel, by decide +kernel⟩, List.mem_of_getElem? (i := 183) (by decide +kernel), List.mem_of_getElem? (i := 1214) (by decide +kernel), List.mem_of_getElem? (i := 1215) (by decide +kernel)⟩
def lw_privs_3 : List (MethodName × Nat) := [(⟨"ColonMachine$Primitives", "swap", "()I"⟩, 7), (⟨"ColonMachine$Primitives", "rot", "()I"⟩, 7), (⟨"ColonMachine$Primitives", "nip", "()I"⟩, 7), (⟨"ColonMachine$Primitives", "tuck", "()I"⟩, 7), (⟨"ColonMachine$Primitives", "maybeDup", "()I"⟩, 7), (⟨"ColonMachine$Primitives", "pickCell", "()I"⟩, 7), (⟨"ColonMachine$Primitives", "twoDup", "()I"⟩, 7), (⟨"ColonMachine$Primitives", "divide", "(I)I"⟩, 7), (⟨"ColonMachine$Primitives", "calculate", "(I)I"⟩, 7), (⟨"ColonMachine$Primitives", "useReturns", "(I)I"⟩, 7), (⟨"ColonMachine$Primitives", "useMemory", "(I)I"⟩, 7), (⟨"ColonMachine$Primitives", "read", "()I"⟩, 7), (⟨"ColonMachine$Primitives", "write", "(I)I"⟩, 7), (⟨"ColonMachine$Primitives", "comma", "()I"⟩, 7), (⟨"ColonMachine$Primitives", "allot", "()I"⟩, 7), (⟨"ColonMachine$Primitives", "say", "(I)I"⟩, 7)]
theorem lw_r3 : ∀ q ∈ lw_privs_3, lw_okq q := List.forall_mem_cons.mpr ⟨lw_p32, List.forall_mem_cons.mpr ⟨lw_p33, List.forall_mem_cons.mpr ⟨lw_p34, List.forall_mem_cons.mpr ⟨lw_p35, List.forall_mem_cons.mpr ⟨lw_p36, List.forall_mem_cons.mpr ⟨lw_p37, List.forall_mem_cons.mpr ⟨lw_p38, List.forall_mem_cons.mpr ⟨lw_p39, List.forall_mem_cons.mpr ⟨lw_p40, List.forall_mem_cons.mpr ⟨lw_p41, List.forall_mem_cons.mpr ⟨lw_p42, List.forall_mem_cons.mpr ⟨lw_p43, List.forall_mem_cons.mpr ⟨lw_p44, List.forall_mem_cons.mpr ⟨lw_p45, List.forall_mem_cons.mpr ⟨lw_p46, List.forall_mem_cons.mpr ⟨lw_p47, fun _ h => absurd h List.not_mem_nil⟩⟩⟩⟩⟩⟩⟩⟩⟩⟩⟩⟩⟩⟩⟩⟩
theorem lw_p48 : lw_okq (⟨"ColonMachine$Primitives", "said", "(II)I"⟩, 7) := ⟨⟨by decide +kernel, by decide +kernel⟩, List.mem_of_getElem? (i := 183) (by decide +kernel), List.mem_of_getElem? (i := 1218) (by decide +kernel), List.mem_of_getElem? (i := 1219) (by decide +kernel)⟩
theorem lw_p49 : lw_okq (⟨"ColonMachine$Primitives", "allocate", "()I"⟩, 7) := ⟨⟨by decide +kernel, by decide +kernel⟩, List.mem_of_getElem? (i := 183) (by decide +kernel), List.mem_of_getElem? (i := 1236) (by decide +kernel), List.mem_of_getElem? (i := 1237) (by decide +kernel)⟩
theorem lw_p50 : lw_okq (⟨"ColonMachine$Memory", "lowestPlace", "(I)I"⟩, 3) := ⟨⟨by decide +kernel, by decide +kernel⟩, List.mem_of_getElem? (i := 76) (by decide +kernel), List.mem_of_getElem? (i := 1244) (by decide +kernel), List.mem_of_getElem? (i := 1245) (by decide +kernel)⟩
theorem lw_p51 : lw_okq (⟨"ColonMachine$Memory", "mark", "(III)V"⟩, 3) := ⟨⟨by decide +kernel, by decide +kernel⟩, List.mem_of_getElem? (i := 76) (by decide +kernel), List.mem_of_getElem? (i := 1248) (by decide +kernel), List.mem_of_getElem? (i := 1249) (by decide +kernel)⟩
theorem lw_p52 : lw_okq (⟨"ColonMachine$Memory", "clearCells", "(II)V"⟩, 3) := ⟨⟨by decide +kernel, by decide +kernel⟩, List.mem_of_getElem? (i := 76) (by decide +kernel), List.mem_of_getElem? (i := 1252) (by decide +kernel), List.mem_of_getElem? (i := 1253) (by decide +kernel)⟩
theorem lw_p53 : lw_okq (⟨"ColonMachine$Primitives", "free", "()I"⟩, 7) := ⟨⟨by decide +kernel, by decide +kernel⟩, List.mem_of_getElem? (i := 183) (by decide +kernel), List.mem_of_getElem? (i := 1257) (by decide +kernel), List.mem_of_getElem? (i := 1258) (by decide +kernel)⟩
theorem lw_p54 : lw_okq (⟨"ColonMachine$Memory", "isBlock", "(I)Z"⟩, 3) := ⟨⟨by decide +kernel, by decide +kernel⟩, List.mem_of_getElem? (i := 76) (by decide +kernel), List.mem_of_getElem? (i := 1265) (by decide +kernel), List.mem_of_getElem? (i := 1266) (by decide +kernel)⟩
theorem lw_p55 : lw_okq (⟨"ColonMachine$Memory", "sizeOf", "(I)I"⟩, 3) := ⟨⟨by decide +kernel, by decide +kernel⟩, List.mem_of_getElem? (i := 76) (by decide +kernel), List.mem_of_getElem? (i := 1269) (by decide +kernel), List.mem_of_getElem? (i := 1270) (by decide +kernel)⟩
theorem lw_p56 : lw_okq (⟨"ColonMachine$Primitives", "resize", "()I"⟩, 7) := ⟨⟨by decide +kernel, by decide +kernel⟩, List.mem_of_getElem? (i := 183) (by decide +kernel), List.mem_of_getElem? (i := 1273) (by decide +kernel), List.mem_of_getElem? (i := 1274) (by decide +kernel)⟩
theorem lw_p57 : lw_okq (⟨"ColonMachine$Memory", "canGrow", "(III)Z"⟩, 3) := ⟨⟨by decide +kernel, by decide +kernel⟩, List.mem_of_getElem? (i := 76) (by decide +kernel), List.mem_of_getElem? (i := 1281) (by decide +kernel), List.mem_of_getElem? (i := 1282) (by decide +kernel)⟩
theorem lw_p58 : lw_okq (⟨"ColonMachine$Memory", "grow", "(III)I"⟩, 3) := ⟨⟨by decide +kernel, by decide +kernel⟩, List.mem_of_getElem? (i := 76) (by decide +kernel), List.mem_of_getElem? (i := 1285) (by decide +kernel), List.mem_of_getElem? (i := 1286) (by decide +kernel)⟩
theorem lw_p59 : lw_okq (⟨"ColonMachine$Memory", "move", "(III)I"⟩, 3) := ⟨⟨by decide +kernel, by decide +kernel⟩, List.mem_of_getElem? (i := 76) (by decide +kernel), List.mem_of_getElem? (i := 1289) (by decide +kernel), List.mem_of_getElem? (i := 1290) (by decide +kernel)⟩
theorem lw_p60 : lw_okq (⟨"ColonMachine$Primitives", "tick", "()I"⟩, 7) := ⟨⟨by decide +kernel, by decide +kernel⟩, List.mem_of_getElem? (i := 183) (by decide +kernel), List.mem_of_getElem? (i := 1294) (by decide +kernel), List.mem_of_getElem? (i := 1295) (by decide +kernel)⟩
theorem lw_p61 : lw_okq (⟨"ColonMachine$Primitives", "makeImmediate", "()I"⟩, 7) := ⟨⟨by decide +kernel, by decide +kernel⟩, List.mem_of_getElem? (i := 183) (by decide +kernel), List.mem_of_getElem? (i := 1301) (by decide +kernel), List.mem_of_getElem? (i := 1302) (by decide +kernel)⟩
theorem lw_p62 : lw_okq (⟨"ColonMachine$Primitives", "define", "(I)I"⟩, 7) := ⟨⟨by decide +kernel, by decide +kernel⟩, List.mem_of_getElem? (i := 183) (by decide +kernel), List.mem_of_getElem? (i := 1309) (by decide +kernel), List.mem_of_getElem? (i := 1310) (by decide +kernel)⟩
theorem lw_p63 : lw_okq (⟨"ColonMachine$Primitives", "newWord", "(IJ)LColonMachine$Word;"⟩, 7) := ⟨⟨by decide +kernel, by decide +kernel⟩, List.mem_of_getElem? (i := 183) (by decide +kernel), List.mem_of_getElem? (i := 1315) (by decide +kernel), List.mem_of_getElem? (i := 1316) (by decide +kernel)⟩
def lw_privs_4 : List (MethodName × Nat) := [(⟨"ColonMachine$Primitives", "said", "(II)I"⟩, 7), (⟨"ColonMachine$Primitives", "allocate", "()I"⟩, 7), (⟨"ColonMachine$Memory", "lowestPlace", "(I)I"⟩, 3), (⟨"ColonMachine$Memory", "mark", "(III)V"⟩, 3), (⟨"ColonMachine$Memory", "clearCells", "(II)V"⟩, 3), (⟨"ColonMachine$Primitives", "free", "()I"⟩, 7), (⟨"ColonMachine$Memory", "isBlock", "(I)Z"⟩, 3), (⟨"ColonMachine$Memory", "sizeOf", "(I)I"⟩, 3), (⟨"ColonMachine$Primitives", "resize", "()I"⟩, 7), (⟨"ColonMachine$Memory", "canGrow", "(III)Z"⟩, 3), (⟨"ColonMachine$Memory", "grow", "(III)I"⟩, 3), (⟨"ColonMachine$Memory", "move", "(III)I"⟩, 3), (⟨"ColonMachine$Primitives", "tick", "()I"⟩, 7), (⟨"ColonMachine$Primitives", "makeImmediate", "()I"⟩, 7), (⟨"ColonMachine$Primitives", "define", "(I)I"⟩, 7), (⟨"ColonMachine$Primitives", "newWord", "(IJ)LColonMachine$Word;"⟩, 7)]
theorem lw_r4 : ∀ q ∈ lw_privs_4, lw_okq q := List.forall_mem_cons.mpr ⟨lw_p48, List.forall_mem_cons.mpr ⟨lw_p49, List.forall_mem_cons.mpr ⟨lw_p50, List.forall_mem_cons.mpr ⟨lw_p51, List.forall_mem_cons.mpr ⟨lw_p52, List.forall_mem_cons.mpr ⟨lw_p53, List.forall_mem_cons.mpr ⟨lw_p54, List.forall_mem_cons.mpr ⟨lw_p55, List.forall_mem_cons.mpr ⟨lw_p56, List.forall_mem_cons.mpr ⟨lw_p57, List.forall_mem_cons.mpr ⟨lw_p58, List.forall_mem_cons.mpr ⟨lw_p59, List.forall_mem_cons.mpr ⟨lw_p60, List.forall_mem_cons.mpr ⟨lw_p61, List.forall_mem_cons.mpr ⟨lw_p62, List.forall_mem_cons.mpr ⟨lw_p63, fun _ h => absurd h List.not_mem_nil⟩⟩⟩⟩⟩⟩⟩⟩⟩⟩⟩⟩⟩⟩⟩⟩
theorem lw_p64 : lw_okq (⟨"ColonMachine", "executeOwn", "(I)I"⟩, 10) := ⟨⟨by decide +kernel, by decide +kernel⟩, List.mem_of_getElem? (i := 32) (by decide +kernel), List.mem_of_getElem? (i := 1322) (by decide +kernel), List.mem_of_getElem? (i := 1323) (by decide +kernel)⟩
theorem lw_p65 : lw_okq (⟨"ColonMachine", "call", "(II)I"⟩, 10) := ⟨⟨by decide +kernel, by decide +kernel⟩, List.mem_of_getElem? (i := 32) (by decide +kernel), List.mem_of_getElem? (i := 1326) (by decide +kernel), List.mem_of_getElem? (i := 1327) (by decide +kernel)⟩
theorem lw_p66 : lw_okq (⟨"ColonMachine", "executeCreated", "(LColonMachine$Word;)I"⟩, 10) := ⟨⟨by decide +kernel, by decide +kernel⟩, List.mem_of_getElem? (i := 32) (by decide +kernel), List.mem_of_getElem? (i := 1334) (by decide +kernel), List.mem_of_getElem? (i := 1335) (by decide +kernel)⟩
theorem lw_p67 : lw_okq (⟨"ColonMachine", "takeBack", "(II)I"⟩, 10) := ⟨⟨by decide +kernel, by decide +kernel⟩, List.mem_of_getElem? (i := 32) (by decide +kernel), List.mem_of_getElem? (i := 1338) (by decide +kernel), List.mem_of_getElem? (i := 1339) (by decide +kernel)⟩
theorem lw_p68 : lw_okq (⟨"ColonMachine", "goOn", "()I"⟩, 10) := ⟨⟨by decide +kernel, by decide +kernel⟩, List.mem_of_getElem? (i := 32) (by decide +kernel), List.mem_of_getElem? (i := 1354) (by decide +kernel), List.mem_of_getElem? (i := 1355) (by decide +kernel)⟩
theorem lw_p69 : lw_okq (⟨"ColonMachine", "endCatch", "()I"⟩, 10) := ⟨⟨by decide +kernel, by decide +kernel⟩, List.mem_of_getElem? (i := 32) (by decide +kernel), List.mem_of_getElem? (i := 1362) (by decide +kernel), List.mem_of_getElem? (i := 1363) (by decide +kernel)⟩
theorem lw_p70 : lw_okq (⟨"ColonMachine", "nextItem", "()LColonMachine$Item;"⟩, 10) := ⟨⟨by decide +kernel, by decide +kernel⟩, List.mem_of_getElem? (i := 32) (by decide +kernel), List.mem_of_getElem? (i := 1367) (by decide +kernel), List.mem_of_getElem? (i := 1368) (by decide +kernel)⟩
theorem lw_p71 : lw_okq (⟨"ColonMachine", "endCall", "()I"⟩, 10) := ⟨⟨by decide +kernel, by decide +kernel⟩, List.mem_of_getElem? (i := 32) (by decide +kernel), List.mem_of_getElem? (i := 1387) (by decide +kernel), List.mem_of_getElem? (i := 1388) (by decide +kernel)⟩
theorem lw_p72 : lw_okq (⟨"ColonMachine", "wentTo", "(I)I"⟩, 10) := ⟨⟨by decide +kernel, by decide +kernel⟩, List.mem_of_getElem? (i := 32) (by decide +kernel), List.mem_of_getElem? (i := 1393) (by decide +kernel), List.mem_of_getElem? (i := 1394) (by decide +kernel)⟩
theorem lw_p73 : lw_okq (⟨"ColonMachine", "wentIfZero", "(I)I"⟩, 10) := ⟨⟨by decide +kernel, by decide +kernel⟩, List.mem_of_getElem? (i := 32) (by decide +kernel), List.mem_of_getElem? (i := 1397) (by decide +kernel), List.mem_of_getElem? (i := 1398) (by decide +kernel)⟩
theorem lw_p74 : lw_okq (⟨"ColonMachine", "enterLoop", "()I"⟩, 10) := ⟨⟨by decide +kernel, by decide +kernel⟩, List.mem_of_getElem? (i := 32) (by decide +kernel), List.mem_of_getElem? (i := 1401) (by decide +kernel), List.mem_of_getElem? (i := 1402) (by decide +kernel)⟩
theorem lw_p75 : lw_okq (⟨"ColonMachine", "enterLoopUnlessSame", "(I)I"⟩, 10) := ⟨⟨by decide +kernel, by decide +kernel⟩, List.mem_of_getElem? (i := 32) (by decide +kernel), List.mem_of_getElem? (i := 1405) (by decide +kernel), List.mem_of_getElem? (i := 1406) (by decide +kernel)⟩
theorem lw_p76 : lw_okq (⟨"ColonMachine", "loop", "(I)I"⟩, 10) := ⟨⟨by decide +kernel, by decide +kernel⟩, List.mem_of_getElem? (i := 32) (by decide +kernel), List.mem_of_getElem? (i := 1410) (by decide +kernel), List.mem_of_getElem? (i := 1411) (by decide +kernel)⟩
theorem lw_p77 : lw_okq (⟨"ColonMachine", "hasLoop", "()Z"⟩, 10) := ⟨⟨by decide +kernel, by decide +kernel⟩, List.mem_of_getElem? (i := 32) (by decide +kernel), List.mem_of_getElem? (i := 1414) (by decide +kernel), List.mem_of_getElem? (i := 1415) (by decide +kernel)⟩
theorem lw_p78 : lw_okq (⟨"ColonMachine", "plusLoop", "(I)I"⟩, 10) := ⟨⟨by decide +kernel, by decide +kernel⟩, List.mem_of_getElem? (i := 32) (by decide +kernel), List.mem_of_getElem? (i := 1419) (by decide +kernel), List.mem_of_getElem? (i := 1420) (by decide +kernel)⟩
theorem lw_p79 : lw_okq (⟨"ColonMachine", "leaveLoop", "(I)I"⟩, 10) := ⟨⟨by decide +kernel, by decide +kernel⟩, List.mem_of_getElem? (i := 32) (by decide +kernel), List.mem_of_getElem? (i := 1423) (by decide +kernel), List.mem_of_getElem? (i := 1424) (by decide +kernel)⟩
def lw_privs_5 : List (MethodName × Nat) := [(⟨"ColonMachine", "executeOwn", "(I)I"⟩, 10), (⟨"ColonMachine", "call", "(II)I"⟩, 10), (⟨"ColonMachine", "executeCreated", "(LColonMachine$Word;)I"⟩, 10), (⟨"ColonMachine", "takeBack", "(II)I"⟩, 10), (⟨"ColonMachine", "goOn", "()I"⟩, 10), (⟨"ColonMachine", "endCatch", "()I"⟩, 10), (⟨"ColonMachine", "nextItem", "()LColonMachine$Item;"⟩, 10), (⟨"ColonMachine", "endCall", "()I"⟩, 10), (⟨"ColonMachine", "wentTo", "(I)I"⟩, 10), (⟨"ColonMachine", "wentIfZero", "(I)I"⟩, 10), (⟨"ColonMachine", "enterLoop", "()I"⟩, 10), (⟨"ColonMachine", "enterLoopUnlessSame", "(I)I"⟩, 10), (⟨"ColonMachine", "loop", "(I)I"⟩, 10), (⟨"ColonMachine", "hasLoop", "()Z"⟩, 10), (⟨"ColonMachine", "plusLoop", "(I)I"⟩, 10), (⟨"ColonMachine", "leaveLoop", "(I)I"⟩, 10)]
theorem lw_r5 : ∀ q ∈ lw_privs_5, lw_okq q := List.forall_mem_cons.mpr ⟨lw_p64, List.forall_mem_cons.mpr ⟨lw_p65, List.forall_mem_cons.mpr ⟨lw_p66, List.forall_mem_cons.mpr ⟨lw_p67, List.forall_mem_cons.mpr ⟨lw_p68, List.forall_mem_cons.mpr ⟨lw_p69, List.forall_mem_cons.mpr ⟨lw_p70, List.forall_mem_cons.mpr ⟨lw_p71, List.forall_mem_cons.mpr ⟨lw_p72, List.forall_mem_cons.mpr ⟨lw_p73, List.forall_mem_cons.mpr ⟨lw_p74, List.forall_mem_cons.mpr ⟨lw_p75, List.forall_mem_cons.mpr ⟨lw_p76, List.forall_mem_cons.mpr ⟨lw_p77, List.forall_mem_cons.mpr ⟨lw_p78, List.forall_mem_cons.mpr ⟨lw_p79, fun _ h => absurd h List.not_mem_nil⟩⟩⟩⟩⟩⟩⟩⟩⟩⟩⟩⟩⟩⟩⟩⟩
theorem lw_p80 : lw_okq (⟨"ColonMachine", "giveBehaviour", "()I"⟩, 10) := ⟨⟨by decide +kernel, by decide +kernel⟩, List.mem_of_getElem? (i := 32) (by decide +kernel), List.mem_of_getElem? (i := 1427) (by decide +kernel), List.mem_of_getElem? (i := 1428) (by decide +kernel)⟩
theorem lw_p81 : lw_okq (⟨"ColonMachine", "isCaught", "(I)Z"⟩, 10) := ⟨⟨by decide +kernel, by decide +kernel⟩, List.mem_of_getElem? (i := 32) (by decide +kernel), List.mem_of_getElem? (i := 1432) (by decide +kernel), List.mem_of_getElem? (i := 1433) (by decide +kernel)⟩
theorem lw_p82 : lw_okq (⟨"ColonMachineModel", "hasWord", "()Z"⟩, 48) := ⟨⟨by decide +kernel, by decide +kernel⟩, List.mem_of_getElem? (i := 1491) (by decide +kernel), List.mem_of_getElem? (i := 1752) (by decide +kernel), List.mem_of_getElem? (i := 1753) (by decide +kernel)⟩
theorem lw_p83 : lw_okq (⟨"ColonMachineModel", "step", "()V"⟩, 48) := ⟨⟨by decide +kernel, by decide +kernel⟩, List.mem_of_getElem? (i := 1491) (by decide +kernel), List.mem_of_getElem? (i := 1756) (by decide +kernel), List.mem_of_getElem? (i := 1757) (by decide +kernel)⟩
theorem lw_p84 : lw_okq (⟨"ColonMachineModel", "interpret", "()V"⟩, 48) := ⟨⟨by decide +kernel, by decide +kernel⟩, List.mem_of_getElem? (i := 1491) (by decide +kernel), List.mem_of_getElem? (i := 1760) (by decide +kernel), List.mem_of_getElem? (i := 1761) (by decide +kernel)⟩
theorem lw_p85 : lw_okq (⟨"ColonMachineModel", "readWord", "()Z"⟩, 48) := ⟨⟨by decide +kernel, by decide +kernel⟩, List.mem_of_getElem? (i := 1491) (by decide +kernel), List.mem_of_getElem? (i := 1764) (by decide +kernel), List.mem_of_getElem? (i := 1765) (by decide +kernel)⟩
theorem lw_p86 : lw_okq (⟨"ColonMachineModel", "find", "()I"⟩, 48) := ⟨⟨by decide +kernel, by decide +kernel⟩, List.mem_of_getElem? (i := 1491) (by decide +kernel), List.mem_of_getElem? (i := 1768) (by decide +kernel), List.mem_of_getElem? (i := 1769) (by decide +kernel)⟩
theorem lw_p87 : lw_okq (⟨"ColonMachineModel", "special", "()I"⟩, 48) := ⟨⟨by decide +kernel, by decide +kernel⟩, List.mem_of_getElem? (i := 1491) (by decide +kernel), List.mem_of_getElem? (i := 1772) (by decide +kernel), List.mem_of_getElem? (i := 1773) (by decide +kernel)⟩
theorem lw_p88 : lw_okq (⟨"ColonMachineModel", "primitive", "()I"⟩, 48) := ⟨⟨by decide +kernel, by decide +kernel⟩, List.mem_of_getElem? (i := 1491) (by decide +kernel), List.mem_of_getElem? (i := 1776) (by decide +kernel), List.mem_of_getElem? (i := 1777) (by decide +kernel)⟩
theorem lw_p89 : lw_okq (⟨"ColonMachineModel", "execute", "(I)V"⟩, 48) := ⟨⟨by decide +kernel, by decide +kernel⟩, List.mem_of_getElem? (i := 1491) (by decide +kernel), List.mem_of_getElem? (i := 1780) (by decide +kernel), List.mem_of_getElem? (i := 1781) (by decide +kernel)⟩
theorem lw_p90 : lw_okq (⟨"ColonMachineModel", "executeWord", "(I)V"⟩, 48) := ⟨⟨by decide +kernel, by decide +kernel⟩, List.mem_of_getElem? (i := 1491) (by decide +kernel), List.mem_of_getElem? (i := 1784) (by decide +kernel), List.mem_of_getElem? (i := 1785) (by decide +kernel)⟩
theorem lw_p91 : lw_okq (⟨"ColonMachineModel", "newCall", "(II)V"⟩, 48) := ⟨⟨by decide +kernel, by decide +kernel⟩, List.mem_of_getElem? (i := 1491) (by decide +kernel), List.mem_of_getElem? (i := 1788) (by decide +kernel), List.mem_of_getElem? (i := 1789) (by decide +kernel)⟩
theorem lw_p92 : lw_okq (⟨"ColonMachineModel", "wants", "(ZI)Z"⟩, 48) := ⟨⟨by decide +kernel, by decide +kernel⟩, List.mem_of_getElem? (i := 1491) (by decide +kernel), List.mem_of_getElem? (i := 1792) (by decide +kernel), List.mem_of_getElem? (i := 1793) (by decide +kernel)⟩
theorem lw_p93 : lw_okq (⟨"ColonMachineModel", "takeBack", "(I)V"⟩, 48) := ⟨⟨by decide +kernel, by decide +kernel⟩, List.mem_of_getElem? (i := 1491) (by decide +kernel), List.mem_of_getElem? (i := 1796) (by decide +kernel), List.mem_of_getElem? (i := 1797) (by decide +kernel)⟩
theorem lw_p94 : lw_okq (⟨"ColonMachineModel", "wantsRoom", "(I)Z"⟩, 48) := ⟨⟨by decide +kernel, by decide +kernel⟩, List.mem_of_getElem? (i := 1491) (by decide +kernel), List.mem_of_getElem? (i := 1800) (by decide +kernel), List.mem_of_getElem? (i := 1801) (by decide +kernel)⟩
theorem lw_p95 : lw_okq (⟨"ColonMachineModel", "pushCell", "(I)V"⟩, 48) := ⟨⟨by decide +kernel, by decide +kernel⟩, List.mem_of_getElem? (i := 1491) (by decide +kernel), List.mem_of_getElem? (i := 1804) (by decide +kernel), List.mem_of_getElem? (i := 1805) (by decide +kernel)⟩
def lw_privs_6 : List (MethodName × Nat) := [(⟨"ColonMachine", "giveBehaviour", "()I"⟩, 10), (⟨"ColonMachine", "isCaught", "(I)Z"⟩, 10), (⟨"ColonMachineModel", "hasWord", "()Z"⟩, 48), (⟨"ColonMachineModel", "step", "()V"⟩, 48), (⟨"ColonMachineModel", "interpret", "()V"⟩, 48), (⟨"ColonMachineModel", "readWord", "()Z"⟩, 48), (⟨"ColonMachineModel", "find", "()I"⟩, 48), (⟨"ColonMachineModel", "special", "()I"⟩, 48), (⟨"ColonMachineModel", "primitive", "()I"⟩, 48), (⟨"ColonMachineModel", "execute", "(I)V"⟩, 48), (⟨"ColonMachineModel", "executeWord", "(I)V"⟩, 48), (⟨"ColonMachineModel", "newCall", "(II)V"⟩, 48), (⟨"ColonMachineModel", "wants", "(ZI)Z"⟩, 48), (⟨"ColonMachineModel", "takeBack", "(I)V"⟩, 48), (⟨"ColonMachineModel", "wantsRoom", "(I)Z"⟩, 48), (⟨"ColonMachineModel", "pushCell", "(I)V"⟩, 48)]
theorem lw_r6 : ∀ q ∈ lw_privs_6, lw_okq q := List.forall_mem_cons.mpr ⟨lw_p80, List.forall_mem_cons.mpr ⟨lw_p81, List.forall_mem_cons.mpr ⟨lw_p82, List.forall_mem_cons.mpr ⟨lw_p83, List.forall_mem_cons.mpr ⟨lw_p84, List.forall_mem_cons.mpr ⟨lw_p85, List.forall_mem_cons.mpr ⟨lw_p86, List.forall_mem_cons.mpr ⟨lw_p87, List.forall_mem_cons.mpr ⟨lw_p88, List.forall_mem_cons.mpr ⟨lw_p89, List.forall_mem_cons.mpr ⟨lw_p90, List.forall_mem_cons.mpr ⟨lw_p91, List.forall_mem_cons.mpr ⟨lw_p92, List.forall_mem_cons.mpr ⟨lw_p93, List.forall_mem_cons.mpr ⟨lw_p94, List.forall_mem_cons.mpr ⟨lw_p95, fun _ h => absurd h List.not_mem_nil⟩⟩⟩⟩⟩⟩⟩⟩⟩⟩⟩⟩⟩⟩⟩⟩
theorem lw_p96 : lw_okq (⟨"ColonMachineModel", "perform", "(I)V"⟩, 48) := ⟨⟨by decide +kernel, by decide +kernel⟩, List.mem_of_getElem? (i := 1491) (by decide +kernel), List.mem_of_getElem? (i := 1808) (by decide +kernel), List.mem_of_getElem? (i := 1809) (by decide +kernel)⟩
theorem lw_p97 : lw_okq (⟨"ColonMachineModel", "maybe", "(I)Z"⟩, 48) := ⟨⟨by decide +kernel, by decide +kernel⟩, List.mem_of_getElem? (i := 1491) (by decide +kernel), List.mem_of_getElem? (i := 1812) (by decide +kernel), List.mem_of_getElem? (i := 1813) (by decide +kernel)⟩
theorem lw_p98 : lw_okq (⟨"ColonMachineModel", "isInBody", "()Z"⟩, 48) := ⟨⟨by decide +kernel, by decide +kernel⟩, List.mem_of_getElem? (i := 1491) (by decide +kernel), List.mem_of_getElem? (i := 1816) (by decide +kernel), List.mem_of_getElem? (i := 1817) (by decide +kernel)⟩
theorem lw_p99 : lw_okq (⟨"ColonMachineModel", "own", "()I"⟩, 48) := ⟨⟨by decide +kernel, by decide +kernel⟩, List.mem_of_getElem? (i := 1491) (by decide +kernel), List.mem_of_getElem? (i := 1820) (by decide +kernel), List.mem_of_getElem? (i := 1821) (by decide +kernel)⟩
theorem lw_p100 : lw_okq (⟨"ColonMachineModel", "shuffle", "(I)V"⟩, 48) := ⟨⟨by decide +kernel, by decide +kernel⟩, List.mem_of_getElem? (i := 1491) (by decide +kernel), List.mem_of_getElem? (i := 1827) (by decide +kernel), List.mem_of_getElem? (i := 1828) (by decide +kernel)⟩
theorem lw_p101 : lw_okq (⟨"ColonMachineModel", "top", "(I)I"⟩, 48) := ⟨⟨by decide +kernel, by decide +kernel⟩, List.mem_of_getElem? (i := 1491) (by decide +kernel), List.mem_of_getElem? (i := 1831) (by decide +kernel), List.mem_of_getElem? (i := 1832) (by decide +kernel)⟩
theorem lw_p102 : lw_okq (⟨"ColonMachineModel", "reckon", "(I)V"⟩, 48) := ⟨⟨by decide +kernel, by decide +kernel⟩, List.mem_of_getElem? (i := 1491) (by decide +kernel), List.mem_of_getElem? (i := 1835) (by decide +kernel), List.mem_of_getElem? (i := 1836) (by decide +kernel)⟩
theorem lw_p103 : lw_okq (⟨"ColonMachineModel", "two", "(I)V"⟩, 48) := ⟨⟨by decide +kernel, by decide +kernel⟩, List.mem_of_getElem? (i := 1491) (by decide +kernel), List.mem_of_getElem? (i := 1842) (by decide +kernel), List.mem_of_getElem? (i := 1843) (by decide +kernel)⟩
theorem lw_p104 : lw_okq (⟨"ColonMachineModel", "ask", "(I)V"⟩, 48) := ⟨⟨by decide +kernel, by decide +kernel⟩, List.mem_of_getElem? (i := 1491) (by decide +kernel), List.mem_of_getElem? (i := 1846) (by decide +kernel), List.mem_of_getElem? (i := 1847) (by decide +kernel)⟩
theorem lw_p105 : lw_okq (⟨"ColonMachineModel", "store", "(I)V"⟩, 48) := ⟨⟨by decide +kernel, by decide +kernel⟩, List.mem_of_getElem? (i := 1491) (by decide +kernel), List.mem_of_getElem? (i := 1851) (by decide +kernel), List.mem_of_getElem? (i := 1852) (by decide +kernel)⟩
theorem lw_p106 : lw_okq (⟨"ColonMachineModel", "isValid", "(I)Z"⟩, 48) := ⟨⟨by decide +kernel, by decide +kernel⟩, List.mem_of_getElem? (i := 1491) (by decide +kernel), List.mem_of_getElem? (i := 1855) (by decide +kernel), List.mem_of_getElem? (i := 1856) (by decide +kernel)⟩
theorem lw_p107 : lw_okq (⟨"ColonMachineModel", "blockOf", "(I)I"⟩, 48) := ⟨⟨by decide +kernel, by decide +kernel⟩, List.mem_of_getElem? (i := 1491) (by decide +kernel), List.mem_of_getElem? (i := 1859) (by decide +kernel), List.mem_of_getElem? (i := 1860) (by decide +kernel)⟩
theorem lw_p108 : lw_okq (⟨"ColonMachineModel", "pop", "()I"⟩, 48) := ⟨⟨by decide +kernel, by decide +kernel⟩, List.mem_of_getElem? (i := 1491) (by decide +kernel), List.mem_of_getElem? (i := 1863) (by decide +kernel), List.mem_of_getElem? (i := 1864) (by decide +kernel)⟩
theorem lw_p109 : lw_okq (⟨"ColonMachineModel", "allots", "(I)Z"⟩, 48) := ⟨⟨by decide +kernel, by decide +kernel⟩, List.mem_of_getElem? (i := 1491) (by decide +kernel), List.mem_of_getElem? (i := 1867) (by decide +kernel), List.mem_of_getElem? (i := 1868) (by decide +kernel)⟩
theorem lw_p110 : lw_okq (⟨"ColonMachineModel", "act", "(I)V"⟩, 48) := ⟨⟨by decide +kernel, by decide +kernel⟩, List.mem_of_getElem? (i := 1491) (by decide +kernel), List.mem_of_getElem? (i := 1872) (by decide +kernel), List.mem_of_getElem? (i := 1873) (by decide +kernel)⟩
theorem lw_p111 : lw_okq (⟨"ColonMachineModel", "tellsNumber", "(JZ)Z"⟩, 48) := ⟨⟨by decide +kernel, by decide +kernel⟩, List.mem_of_getElem? (i := 1491) (by decide +kernel), List.mem_of_getElem? (i := 1876) (by decide +kernel), List.mem_of_getElem? (i := 1877) (by decide +kernel)⟩
def lw_privs_7 : List (MethodName × Nat) := [(⟨"ColonMachineModel", "perform", "(I)V"⟩, 48), (⟨"ColonMachineModel", "maybe", "(I)Z"⟩, 48), (⟨"ColonMachineModel", "isInBody", "()Z"⟩, 48), (⟨"ColonMachineModel", "own", "()I"⟩, 48), (⟨"ColonMachineModel", "shuffle", "(I)V"⟩, 48), (⟨"ColonMachineModel", "top", "(I)I"⟩, 48), (⟨"ColonMachineModel", "reckon", "(I)V"⟩, 48), (⟨"ColonMachineModel", "two", "(I)V"⟩, 48), (⟨"ColonMachineModel", "ask", "(I)V"⟩, 48), (⟨"ColonMachineModel", "store", "(I)V"⟩, 48), (⟨"ColonMachineModel", "isValid", "(I)Z"⟩, 48), (⟨"ColonMachineModel", "blockOf", "(I)I"⟩, 48), (⟨"ColonMachineModel", "pop", "()I"⟩, 48), (⟨"ColonMachineModel", "allots", "(I)Z"⟩, 48), (⟨"ColonMachineModel", "act", "(I)V"⟩, 48), (⟨"ColonMachineModel", "tellsNumber", "(JZ)Z"⟩, 48)]
theorem lw_r7 : ∀ q ∈ lw_privs_7, lw_okq q := List.forall_mem_cons.mpr ⟨lw_p96, List.forall_mem_cons.mpr ⟨lw_p97, List.forall_mem_cons.mpr ⟨lw_p98, List.forall_mem_cons.mpr ⟨lw_p99, List.forall_mem_cons.mpr ⟨lw_p100, List.forall_mem_cons.mpr ⟨lw_p101, List.forall_mem_cons.mpr ⟨lw_p102, List.forall_mem_cons.mpr ⟨lw_p103, List.forall_mem_cons.mpr ⟨lw_p104, List.forall_mem_cons.mpr ⟨lw_p105, List.forall_mem_cons.mpr ⟨lw_p106, List.forall_mem_cons.mpr ⟨lw_p107, List.forall_mem_cons.mpr ⟨lw_p108, List.forall_mem_cons.mpr ⟨lw_p109, List.forall_mem_cons.mpr ⟨lw_p110, List.forall_mem_cons.mpr ⟨lw_p111, fun _ h => absurd h List.not_mem_nil⟩⟩⟩⟩⟩⟩⟩⟩⟩⟩⟩⟩⟩⟩⟩⟩
theorem lw_p112 : lw_okq (⟨"ColonMachineModel", "isBase", "()Z"⟩, 48) := ⟨⟨by decide +kernel, by decide +kernel⟩, List.mem_of_getElem? (i := 1491) (by decide +kernel), List.mem_of_getElem? (i := 1880) (by decide +kernel), List.mem_of_getElem? (i := 1881) (by decide +kernel)⟩
theorem lw_p113 : lw_okq (⟨"ColonMachineModel", "putByte", "(I)V"⟩, 48) := ⟨⟨by decide +kernel, by decide +kernel⟩, List.mem_of_getElem? (i := 1491) (by decide +kernel), List.mem_of_getElem? (i := 1884) (by decide +kernel), List.mem_of_getElem? (i := 1885) (by decide +kernel)⟩
theorem lw_p114 : lw_okq (⟨"ColonMachineModel", "hasToken", "(I)Z"⟩, 48) := ⟨⟨by decide +kernel, by decide +kernel⟩, List.mem_of_getElem? (i := 1491) (by decide +kernel), List.mem_of_getElem? (i := 1888) (by decide +kernel), List.mem_of_getElem? (i := 1889) (by decide +kernel)⟩
theorem lw_p115 : lw_okq (⟨"ColonMachineModel", "heap", "(I)V"⟩, 48) := ⟨⟨by decide +kernel, by decide +kernel⟩, List.mem_of_getElem? (i := 1491) (by decide +kernel), List.mem_of_getElem? (i := 1892) (by decide +kernel), List.mem_of_getElem? (i := 1893) (by decide +kernel)⟩
theorem lw_p116 : lw_okq (⟨"ColonMachineModel", "take", "(I)I"⟩, 48) := ⟨⟨by decide +kernel, by decide +kernel⟩, List.mem_of_getElem? (i := 1491) (by decide +kernel), List.mem_of_getElem? (i := 1896) (by decide +kernel), List.mem_of_getElem? (i := 1897) (by decide +kernel)⟩
theorem lw_p117 : lw_okq (⟨"ColonMachineModel", "freeFrom", "(I)I"⟩, 48) := ⟨⟨by decide +kernel, by decide +kernel⟩, List.mem_of_getElem? (i := 1491) (by decide +kernel), List.mem_of_getElem? (i := 1900) (by decide +kernel), List.mem_of_getElem? (i := 1901) (by decide +kernel)⟩
theorem lw_p118 : lw_okq (⟨"ColonMachineModel", "frees", "(I)Z"⟩, 48) := ⟨⟨by decide +kernel, by decide +kernel⟩, List.mem_of_getElem? (i := 1491) (by decide +kernel), List.mem_of_getElem? (i := 1904) (by decide +kernel), List.mem_of_getElem? (i := 1905) (by decide +kernel)⟩
theorem lw_p119 : lw_okq (⟨"ColonMachineModel", "resized", "(II)I"⟩, 48) := ⟨⟨by decide +kernel, by decide +kernel⟩, List.mem_of_getElem? (i := 1491) (by decide +kernel), List.mem_of_getElem? (i := 1908) (by decide +kernel), List.mem_of_getElem? (i := 1909) (by decide +kernel)⟩
theorem lw_p120 : lw_okq (⟨"ColonMachineModel", "define", "(I)V"⟩, 48) := ⟨⟨by decide +kernel, by decide +kernel⟩, List.mem_of_getElem? (i := 1491) (by decide +kernel), List.mem_of_getElem? (i := 1912) (by decide +kernel), List.mem_of_getElem? (i := 1913) (by decide +kernel)⟩
theorem lw_p121 : lw_okq (⟨"ColonMachineModel", "endCall", "()V"⟩, 48) := ⟨⟨by decide +kernel, by decide +kernel⟩, List.mem_of_getElem? (i := 1491) (by decide +kernel), List.mem_of_getElem? (i := 1916) (by decide +kernel), List.mem_of_getElem? (i := 1917) (by decide +kernel)⟩
theorem lw_p122 : lw_okq (⟨"ColonMachineModel", "readToken", "()I"⟩, 48) := ⟨⟨by decide +kernel, by decide +kernel⟩, List.mem_of_getElem? (i := 1491) (by decide +kernel), List.mem_of_getElem? (i := 1920) (by decide +kernel), List.mem_of_getElem? (i := 1921) (by decide +kernel)⟩
theorem lw_p123 : lw_okq (⟨"ColonMachineModel", "readsName", "()Z"⟩, 48) := ⟨⟨by decide +kernel, by decide +kernel⟩, List.mem_of_getElem? (i := 1491) (by decide +kernel), List.mem_of_getElem? (i := 1924) (by decide +kernel), List.mem_of_getElem? (i := 1925) (by decide +kernel)⟩
theorem lw_p124 : lw_okq (⟨"ColonMachineModel", "enter", "(II)V"⟩, 48) := ⟨⟨by decide +kernel, by decide +kernel⟩, List.mem_of_getElem? (i := 1491) (by decide +kernel), List.mem_of_getElem? (i := 1928) (by decide +kernel), List.mem_of_getElem? (i := 1929) (by decide +kernel)⟩
theorem lw_p125 : lw_okq (⟨"ColonMachineModel", "adds", "(II)Z"⟩, 48) := ⟨⟨by decide +kernel, by decide +kernel⟩, List.mem_of_getElem? (i := 1491) (by decide +kernel), List.mem_of_getElem? (i := 1932) (by decide +kernel), List.mem_of_getElem? (i := 1933) (by decide +kernel)⟩
theorem lw_p126 : lw_okq (⟨"ColonMachineModel", "place", "()I"⟩, 48) := ⟨⟨by decide +kernel, by decide +kernel⟩, List.mem_of_getElem? (i := 1491) (by decide +kernel), List.mem_of_getElem? (i := 1936) (by decide +kernel), List.mem_of_getElem? (i := 1937) (by decide +kernel)⟩
theorem lw_p127 : lw_okq (⟨"ColonMachineModel", "doSpecial", "(I)V"⟩, 48) := ⟨⟨by decide +kernel, by decide +kernel⟩, List.mem_of_getElem? (i := 1491) (by decide +kernel), List.mem_of_getElem? (i := 1940) (by decide +kernel), List.mem_of_getElem? (i := 1941) (by decide +kernel)⟩
def lw_privs_8 : List (MethodName × Nat) := [(⟨"ColonMachineModel", "isBase", "()Z"⟩, 48), (⟨"ColonMachineModel", "putByte", "(I)V"⟩, 48), (⟨"ColonMachineModel", "hasToken", "(I)Z"⟩, 48), (⟨"ColonMachineModel", "heap", "(I)V"⟩, 48), (⟨"ColonMachineModel", "take", "(I)I"⟩, 48), (⟨"ColonMachineModel", "freeFrom", "(I)I"⟩, 48), (⟨"ColonMachineModel", "frees", "(I)Z"⟩, 48), (⟨"ColonMachineModel", "resized", "(II)I"⟩, 48), (⟨"ColonMachineModel", "define", "(I)V"⟩, 48), (⟨"ColonMachineModel", "endCall", "()V"⟩, 48), (⟨"ColonMachineModel", "readToken", "()I"⟩, 48), (⟨"ColonMachineModel", "readsName", "()Z"⟩, 48), (⟨"ColonMachineModel", "enter", "(II)V"⟩, 48), (⟨"ColonMachineModel", "adds", "(II)Z"⟩, 48), (⟨"ColonMachineModel", "place", "()I"⟩, 48), (⟨"ColonMachineModel", "doSpecial", "(I)V"⟩, 48)]
theorem lw_r8 : ∀ q ∈ lw_privs_8, lw_okq q := List.forall_mem_cons.mpr ⟨lw_p112, List.forall_mem_cons.mpr ⟨lw_p113, List.forall_mem_cons.mpr ⟨lw_p114, List.forall_mem_cons.mpr ⟨lw_p115, List.forall_mem_cons.mpr ⟨lw_p116, List.forall_mem_cons.mpr ⟨lw_p117, List.forall_mem_cons.mpr ⟨lw_p118, List.forall_mem_cons.mpr ⟨lw_p119, List.forall_mem_cons.mpr ⟨lw_p120, List.forall_mem_cons.mpr ⟨lw_p121, List.forall_mem_cons.mpr ⟨lw_p122, List.forall_mem_cons.mpr ⟨lw_p123, List.forall_mem_cons.mpr ⟨lw_p124, List.forall_mem_cons.mpr ⟨lw_p125, List.forall_mem_cons.mpr ⟨lw_p126, List.forall_mem_cons.mpr ⟨lw_p127, fun _ h => absurd h List.not_mem_nil⟩⟩⟩⟩⟩⟩⟩⟩⟩⟩⟩⟩⟩⟩⟩⟩
theorem lw_p128 : lw_okq (⟨"ColonMachineModel", "beginWord", "()V"⟩, 48) := ⟨⟨by decide +kernel, by decide +kernel⟩, List.mem_of_getElem? (i := 1491) (by decide +kernel), List.mem_of_getElem? (i := 1944) (by decide +kernel), List.mem_of_getElem? (i := 1945) (by decide +kernel)⟩
theorem lw_p129 : lw_okq (⟨"ColonMachineModel", "goOver", "(I)V"⟩, 48) := ⟨⟨by decide +kernel, by decide +kernel⟩, List.mem_of_getElem? (i := 1491) (by decide +kernel), List.mem_of_getElem? (i := 1948) (by decide +kernel), List.mem_of_getElem? (i := 1949) (by decide +kernel)⟩
theorem lw_p130 : lw_okq (⟨"ColonMachineModel", "say", "()V"⟩, 48) := ⟨⟨by decide +kernel, by decide +kernel⟩, List.mem_of_getElem? (i := 1491) (by decide +kernel), List.mem_of_getElem? (i := 1952) (by decide +kernel), List.mem_of_getElem? (i := 1953) (by decide +kernel)⟩
theorem lw_p131 : lw_okq (⟨"ColonMachineModel", "putRow", "([III)V"⟩, 48) := ⟨⟨by decide +kernel, by decide +kernel⟩, List.mem_of_getElem? (i := 1491) (by decide +kernel), List.mem_of_getElem? (i := 1956) (by decide +kernel), List.mem_of_getElem? (i := 1957) (by decide +kernel)⟩
theorem lw_p132 : lw_okq (⟨"ColonMachineModel", "control", "(I)V"⟩, 48) := ⟨⟨by decide +kernel, by decide +kernel⟩, List.mem_of_getElem? (i := 1491) (by decide +kernel), List.mem_of_getElem? (i := 1960) (by decide +kernel), List.mem_of_getElem? (i := 1961) (by decide +kernel)⟩
theorem lw_p133 : lw_okq (⟨"ColonMachineModel", "finishWord", "()V"⟩, 48) := ⟨⟨by decide +kernel, by decide +kernel⟩, List.mem_of_getElem? (i := 1491) (by decide +kernel), List.mem_of_getElem? (i := 1964) (by decide +kernel), List.mem_of_getElem? (i := 1965) (by decide +kernel)⟩
theorem lw_p134 : lw_okq (⟨"ColonMachineModel", "opens", "(II)V"⟩, 48) := ⟨⟨by decide +kernel, by decide +kernel⟩, List.mem_of_getElem? (i := 1491) (by decide +kernel), List.mem_of_getElem? (i := 1968) (by decide +kernel), List.mem_of_getElem? (i := 1969) (by decide +kernel)⟩
theorem lw_p135 : lw_okq (⟨"ColonMachineModel", "open", "(II)V"⟩, 48) := ⟨⟨by decide +kernel, by decide +kernel⟩, List.mem_of_getElem? (i := 1491) (by decide +kernel), List.mem_of_getElem? (i := 1972) (by decide +kernel), List.mem_of_getElem? (i := 1973) (by decide +kernel)⟩
theorem lw_p136 : lw_okq (⟨"ColonMachineModel", "thenOrElse", "(Z)V"⟩, 48) := ⟨⟨by decide +kernel, by decide +kernel⟩, List.mem_of_getElem? (i := 1491) (by decide +kernel), List.mem_of_getElem? (i := 1976) (by decide +kernel), List.mem_of_getElem? (i := 1977) (by decide +kernel)⟩
theorem lw_p137 : lw_okq (⟨"ColonMachineModel", "isOpen", "(II)Z"⟩, 48) := ⟨⟨by decide +kernel, by decide +kernel⟩, List.mem_of_getElem? (i := 1491) (by decide +kernel), List.mem_of_getElem? (i := 1980) (by decide +kernel), List.mem_of_getElem? (i := 1981) (by decide +kernel)⟩
theorem lw_p138 : lw_okq (⟨"ColonMachineModel", "wantsOpen", "(ZZ)Z"⟩, 48) := ⟨⟨by decide +kernel, by decide +kernel⟩, List.mem_of_getElem? (i := 1491) (by decide +kernel), List.mem_of_getElem? (i := 1984) (by decide +kernel), List.mem_of_getElem? (i := 1985) (by decide +kernel)⟩
theorem lw_p139 : lw_okq (⟨"ColonMachineModel", "close", "()I"⟩, 48) := ⟨⟨by decide +kernel, by decide +kernel⟩, List.mem_of_getElem? (i := 1491) (by decide +kernel), List.mem_of_getElem? (i := 1988) (by decide +kernel), List.mem_of_getElem? (i := 1989) (by decide +kernel)⟩
theorem lw_p140 : lw_okq (⟨"ColonMachineModel", "fill", "(I)V"⟩, 48) := ⟨⟨by decide +kernel, by decide +kernel⟩, List.mem_of_getElem? (i := 1491) (by decide +kernel), List.mem_of_getElem? (i := 1992) (by decide +kernel), List.mem_of_getElem? (i := 1993) (by decide +kernel)⟩
theorem lw_p141 : lw_okq (⟨"ColonMachineModel", "repeat", "()V"⟩, 48) := ⟨⟨by decide +kernel, by decide +kernel⟩, List.mem_of_getElem? (i := 1491) (by decide +kernel), List.mem_of_getElem? (i := 1996) (by decide +kernel), List.mem_of_getElem? (i := 1997) (by decide +kernel)⟩
theorem lw_p142 : lw_okq (⟨"ColonMachineModel", "loop", "(I)V"⟩, 48) := ⟨⟨by decide +kernel, by decide +kernel⟩, List.mem_of_getElem? (i := 1491) (by decide +kernel), List.mem_of_getElem? (i := 2000) (by decide +kernel), List.mem_of_getElem? (i := 2001) (by decide +kernel)⟩
theorem lw_p143 : lw_okq (⟨"ColonMachineModel", "hasDo", "()Z"⟩, 48) := ⟨⟨by decide +kernel, by decide +kernel⟩, List.mem_of_getElem? (i := 1491) (by decide +kernel), List.mem_of_getElem? (i := 2004) (by decide +kernel), List.mem_of_getElem? (i := 2005) (by decide +kernel)⟩
def lw_privs_9 : List (MethodName × Nat) := [(⟨"ColonMachineModel", "beginWord", "()V"⟩, 48), (⟨"ColonMachineModel", "goOver", "(I)V"⟩, 48), (⟨"ColonMachineModel", "say", "()V"⟩, 48), (⟨"ColonMachineModel", "putRow", "([III)V"⟩, 48), (⟨"ColonMachineModel", "control", "(I)V"⟩, 48), (⟨"ColonMachineModel", "finishWord", "()V"⟩, 48), (⟨"ColonMachineModel", "opens", "(II)V"⟩, 48), (⟨"ColonMachineModel", "open", "(II)V"⟩, 48), (⟨"ColonMachineModel", "thenOrElse", "(Z)V"⟩, 48), (⟨"ColonMachineModel", "isOpen", "(II)Z"⟩, 48), (⟨"ColonMachineModel", "wantsOpen", "(ZZ)Z"⟩, 48), (⟨"ColonMachineModel", "close", "()I"⟩, 48), (⟨"ColonMachineModel", "fill", "(I)V"⟩, 48), (⟨"ColonMachineModel", "repeat", "()V"⟩, 48), (⟨"ColonMachineModel", "loop", "(I)V"⟩, 48), (⟨"ColonMachineModel", "hasDo", "()Z"⟩, 48)]
theorem lw_r9 : ∀ q ∈ lw_privs_9, lw_okq q := List.forall_mem_cons.mpr ⟨lw_p128, List.forall_mem_cons.mpr ⟨lw_p129, List.forall_mem_cons.mpr ⟨lw_p130, List.forall_mem_cons.mpr ⟨lw_p131, List.forall_mem_cons.mpr ⟨lw_p132, List.forall_mem_cons.mpr ⟨lw_p133, List.forall_mem_cons.mpr ⟨lw_p134, List.forall_mem_cons.mpr ⟨lw_p135, List.forall_mem_cons.mpr ⟨lw_p136, List.forall_mem_cons.mpr ⟨lw_p137, List.forall_mem_cons.mpr ⟨lw_p138, List.forall_mem_cons.mpr ⟨lw_p139, List.forall_mem_cons.mpr ⟨lw_p140, List.forall_mem_cons.mpr ⟨lw_p141, List.forall_mem_cons.mpr ⟨lw_p142, List.forall_mem_cons.mpr ⟨lw_p143, fun _ h => absurd h List.not_mem_nil⟩⟩⟩⟩⟩⟩⟩⟩⟩⟩⟩⟩⟩⟩⟩⟩
theorem lw_p144 : lw_okq (⟨"ColonMachineModel", "isNumber", "()Z"⟩, 48) := ⟨⟨by decide +kernel, by decide +kernel⟩, List.mem_of_getElem? (i := 1491) (by decide +kernel), List.mem_of_getElem? (i := 2008) (by decide +kernel), List.mem_of_getElem? (i := 2009) (by decide +kernel)⟩
theorem lw_p145 : lw_okq (⟨"ColonMachineModel", "number", "()I"⟩, 48) := ⟨⟨by decide +kernel, by decide +kernel⟩, List.mem_of_getElem? (i := 1491) (by decide +kernel), List.mem_of_getElem? (i := 2015) (by decide +kernel), List.mem_of_getElem? (i := 2016) (by decide +kernel)⟩
theorem lw_p146 : lw_okq (⟨"ColonMachineModel", "take1", "(I)V"⟩, 48) := ⟨⟨by decide +kernel, by decide +kernel⟩, List.mem_of_getElem? (i := 1491) (by decide +kernel), List.mem_of_getElem? (i := 2019) (by decide +kernel), List.mem_of_getElem? (i := 2020) (by decide +kernel)⟩
theorem lw_p147 : lw_okq (⟨"ColonMachineModel", "goTo", "(I)V"⟩, 48) := ⟨⟨by decide +kernel, by decide +kernel⟩, List.mem_of_getElem? (i := 1491) (by decide +kernel), List.mem_of_getElem? (i := 2023) (by decide +kernel), List.mem_of_getElem? (i := 2024) (by decide +kernel)⟩
theorem lw_p148 : lw_okq (⟨"ColonMachineModel", "beginLoop", "(ZI)V"⟩, 48) := ⟨⟨by decide +kernel, by decide +kernel⟩, List.mem_of_getElem? (i := 1491) (by decide +kernel), List.mem_of_getElem? (i := 2027) (by decide +kernel), List.mem_of_getElem? (i := 2028) (by decide +kernel)⟩
theorem lw_p149 : lw_okq (⟨"ColonMachineModel", "goOn", "(ZI)V"⟩, 48) := ⟨⟨by decide +kernel, by decide +kernel⟩, List.mem_of_getElem? (i := 1491) (by decide +kernel), List.mem_of_getElem? (i := 2031) (by decide +kernel), List.mem_of_getElem? (i := 2032) (by decide +kernel)⟩
theorem lw_p150 : lw_okq (⟨"ColonMachineModel", "endLoop", "(ZI)V"⟩, 48) := ⟨⟨by decide +kernel, by decide +kernel⟩, List.mem_of_getElem? (i := 1491) (by decide +kernel), List.mem_of_getElem? (i := 2035) (by decide +kernel), List.mem_of_getElem? (i := 2036) (by decide +kernel)⟩
theorem lw_p151 : lw_okq (⟨"ColonMachineModel", "does", "()V"⟩, 48) := ⟨⟨by decide +kernel, by decide +kernel⟩, List.mem_of_getElem? (i := 1491) (by decide +kernel), List.mem_of_getElem? (i := 2039) (by decide +kernel), List.mem_of_getElem? (i := 2040) (by decide +kernel)⟩
theorem lw_p152 : lw_okq (⟨"ColonMachineModel", "isCaught", "()Z"⟩, 48) := ⟨⟨by decide +kernel, by decide +kernel⟩, List.mem_of_getElem? (i := 1491) (by decide +kernel), List.mem_of_getElem? (i := 2043) (by decide +kernel), List.mem_of_getElem? (i := 2044) (by decide +kernel)⟩
def lw_privs_10 : List (MethodName × Nat) := [(⟨"ColonMachineModel", "isNumber", "()Z"⟩, 48), (⟨"ColonMachineModel", "number", "()I"⟩, 48), (⟨"ColonMachineModel", "take1", "(I)V"⟩, 48), (⟨"ColonMachineModel", "goTo", "(I)V"⟩, 48), (⟨"ColonMachineModel", "beginLoop", "(ZI)V"⟩, 48), (⟨"ColonMachineModel", "goOn", "(ZI)V"⟩, 48), (⟨"ColonMachineModel", "endLoop", "(ZI)V"⟩, 48), (⟨"ColonMachineModel", "does", "()V"⟩, 48), (⟨"ColonMachineModel", "isCaught", "()Z"⟩, 48)]
theorem lw_r10 : ∀ q ∈ lw_privs_10, lw_okq q := List.forall_mem_cons.mpr ⟨lw_p144, List.forall_mem_cons.mpr ⟨lw_p145, List.forall_mem_cons.mpr ⟨lw_p146, List.forall_mem_cons.mpr ⟨lw_p147, List.forall_mem_cons.mpr ⟨lw_p148, List.forall_mem_cons.mpr ⟨lw_p149, List.forall_mem_cons.mpr ⟨lw_p150, List.forall_mem_cons.mpr ⟨lw_p151, List.forall_mem_cons.mpr ⟨lw_p152, fun _ h => absurd h List.not_mem_nil⟩⟩⟩⟩⟩⟩⟩⟩⟩
def lw_privs : List (MethodName × Nat) := lw_privs_1 ++ (lw_privs_2 ++ (lw_privs_3 ++ (lw_privs_4 ++ (lw_privs_5 ++ (lw_privs_6 ++ (lw_privs_7 ++ (lw_privs_8 ++ (lw_privs_9 ++ (lw_privs_10)))))))))
def lw_tbl : List Cond := k2_sels lw_privs ++ tables_1
theorem lw_privs_ok : ∀ q ∈ lw_privs, lw_okq q := by
  show ∀ q ∈ lw_privs_1 ++ (lw_privs_2 ++ (lw_privs_3 ++ (lw_privs_4 ++ (lw_privs_5 ++ (lw_privs_6 ++ (lw_privs_7 ++ (lw_privs_8 ++ (lw_privs_9 ++ (lw_privs_10))))))))), lw_okq q
  exact List.forall_mem_append.mpr ⟨lw_r1, List.forall_mem_append.mpr ⟨lw_r2, List.forall_mem_append.mpr ⟨lw_r3, List.forall_mem_append.mpr ⟨lw_r4, List.forall_mem_append.mpr ⟨lw_r5, List.forall_mem_append.mpr ⟨lw_r6, List.forall_mem_append.mpr ⟨lw_r7, List.forall_mem_append.mpr ⟨lw_r8, List.forall_mem_append.mpr ⟨lw_r9, lw_r10⟩⟩⟩⟩⟩⟩⟩⟩⟩
end
section
/-- the words that hold wherever the tables are alike -/
def TB : List Cond := lw_tbl.filter goodWord
theorem tbI1 (w : Cond) (h : w ∈ tables_1_1) (hg : goodWord w = true) : w ∈ TB := List.mem_filter.mpr ⟨List.mem_append_right _ (List.mem_append_left _ h), hg⟩
theorem tbI2 (w : Cond) (h : w ∈ tables_1_2) (hg : goodWord w = true) : w ∈ TB := List.mem_filter.mpr ⟨List.mem_append_right _ (List.mem_append_right _ (List.mem_append_left _ h)), hg⟩
theorem tbI3 (w : Cond) (h : w ∈ tables_1_3) (hg : goodWord w = true) : w ∈ TB := List.mem_filter.mpr ⟨List.mem_append_right _ (List.mem_append_right _ (List.mem_append_right _ (List.mem_append_left _ h))), hg⟩
theorem tbI4 (w : Cond) (h : w ∈ tables_1_4) (hg : goodWord w = true) : w ∈ TB := List.mem_filter.mpr ⟨List.mem_append_right _ (List.mem_append_right _ (List.mem_append_right _ (List.mem_append_right _ (List.mem_append_left _ h)))), hg⟩
theorem tbI5 (w : Cond) (h : w ∈ tables_1_5) (hg : goodWord w = true) : w ∈ TB := List.mem_filter.mpr ⟨List.mem_append_right _ (List.mem_append_right _ (List.mem_append_right _ (List.mem_append_right _ (List.mem_append_right _ (List.mem_append_left _ h))))), hg⟩
theorem tbI6 (w : Cond) (h : w ∈ tables_1_6) (hg : goodWord w = true) : w ∈ TB := List.mem_filter.mpr ⟨List.mem_append_right _ (List.mem_append_right _ (List.mem_append_right _ (List.mem_append_right _ (List.mem_append_right _ (List.mem_append_right _ (List.mem_append_left _ h)))))), hg⟩
theorem tbI7 (w : Cond) (h : w ∈ tables_1_7) (hg : goodWord w = true) : w ∈ TB := List.mem_filter.mpr ⟨List.mem_append_right _ (List.mem_append_right _ (List.mem_append_right _ (List.mem_append_right _ (List.mem_append_right _ (List.mem_append_right _ (List.mem_append_right _ (List.mem_append_left _ h))))))), hg⟩
theorem tbI8 (w : Cond) (h : w ∈ tables_1_8) (hg : goodWord w = true) : w ∈ TB := List.mem_filter.mpr ⟨List.mem_append_right _ (List.mem_append_right _ (List.mem_append_right _ (List.mem_append_right _ (List.mem_append_right _ (List.mem_append_right _ (List.mem_append_right _ (List.mem_append_right _ (List.mem_append_left _ h)))))))), hg⟩
theorem tbI9 (w : Cond) (h : w ∈ tables_1_9) (hg : goodWord w = true) : w ∈ TB := List.mem_filter.mpr ⟨List.mem_append_right _ (List.mem_append_right _ (List.mem_append_right _ (List.mem_append_right _ (List.mem_append_right _ (List.mem_append_right _ (List.mem_append_right _ (List.mem_append_right _ (List.mem_append_right _ (h))))))))), hg⟩
theorem tbP (w : Cond) (h : w ∈ k2_sels lw_privs) (hg : goodWord w = true) : w ∈ TB := List.mem_filter.mpr ⟨List.mem_append_left _ h, hg⟩
theorem tb_good : GoodIn TB TB := fun w h => ⟨h, good_of_word (List.mem_filter.mp h).2⟩
theorem tb_cons {w : Cond} (h : w ∈ TB) : GoodIn TB (w :: TB) := fun v hv => (List.mem_cons.mp hv).elim (fun e => e ▸ tb_good w h) (tb_good v)
theorem tbV {own C : String} {idx : Nat} {y : MethodName} {w : Cond} (h1 : Cond.methodLink own idx y ∈ TB) (h2 : Cond.instanceMethod y ∈ TB) (h3 : Cond.selects C y y ∈ TB) (h4 : Cond.initialized C ∈ TB) (hc : w ∈ TB) : GoodIn TB (wsV own idx C y (w :: TB)) := by
  intro v hv
  unfold wsV at hv
  rcases List.mem_append.mp hv with hv | hv
  · simp only [List.mem_cons, List.not_mem_nil, or_false] at hv
    rcases hv with rfl | rfl | rfl | rfl
    · exact tb_good _ h1
    · exact tb_good _ h2
    · exact tb_good _ h3
    · exact tb_good _ h4
  · exact tb_cons hc v hv
theorem tbS {own : String} {idx : Nat} {y : MethodName} {w : Cond} (h1 : Cond.methodLink own idx y ∈ TB) (h2 : Cond.static y ∈ TB) (h4 : Cond.initialized y.cls ∈ TB) (hc : w ∈ TB) : GoodIn TB (va_wsS own idx y (w :: TB)) := by
  intro v hv
  unfold va_wsS at hv
  rcases List.mem_append.mp hv with hv | hv
  · simp only [List.mem_cons, List.not_mem_nil, or_false] at hv
    rcases hv with rfl | rfl | rfl
    · exact tb_good _ h1
    · exact tb_good _ h2
    · exact tb_good _ h4
  · exact tb_cons hc v hv
abbrev TY (cI : ClassId) : List (ClassId × FieldType) := [(cI, .int)]
theorem la_Calls_0 : (Jvm.Cond.laysFinal "ColonMachine$Calls" "ColonMachine$Calls" "owners" "[I") ∈ TB := tbI1 _ (List.mem_of_getElem? (i := 64) rfl) rfl
theorem la_Calls_1 : (Jvm.Cond.laysFinal "ColonMachine$Calls" "ColonMachine$Calls" "places" "[I") ∈ TB := tbI1 _ (List.mem_of_getElem? (i := 66) rfl) rfl
theorem la_Calls_2 : (Jvm.Cond.laysFinal "ColonMachine$Calls" "ColonMachine$Calls" "returnSizes" "[I") ∈ TB := tbI1 _ (List.mem_of_getElem? (i := 68) rfl) rfl
theorem la_Calls_3 : (Jvm.Cond.laysFinal "ColonMachine$Calls" "ColonMachine$Calls" "dataSizes" "[I") ∈ TB := tbI1 _ (List.mem_of_getElem? (i := 70) rfl) rfl
theorem la_Calls_4 : (Jvm.Cond.lays "ColonMachine$Calls" "ColonMachine$Calls" "size" "I") ∈ TB := tbI1 _ (List.mem_of_getElem? (i := 72) rfl) rfl
theorem la_Cells_0 : (Jvm.Cond.laysFinal "ColonMachine$Cells" "ColonMachine$Cells" "cells" "[I") ∈ TB := tbI1 _ (List.mem_of_getElem? (i := 47) rfl) rfl
theorem la_Cells_1 : (Jvm.Cond.lays "ColonMachine$Cells" "ColonMachine$Cells" "size" "I") ∈ TB := tbI1 _ (List.mem_of_getElem? (i := 49) rfl) rfl
theorem la_Compiler_0 : (Jvm.Cond.laysFinal "ColonMachine$Compiler" "ColonMachine$Compiler" "text" "LColonMachine$Text;") ∈ TB := tbI1 _ (List.mem_of_getElem? (i := 161) rfl) rfl
theorem la_Compiler_1 : (Jvm.Cond.laysFinal "ColonMachine$Compiler" "ColonMachine$Compiler" "words" "LColonMachine$Words;") ∈ TB := tbI1 _ (List.mem_of_getElem? (i := 163) rfl) rfl
theorem la_Compiler_2 : (Jvm.Cond.laysFinal "ColonMachine$Compiler" "ColonMachine$Compiler" "memory" "LColonMachine$Memory;") ∈ TB := tbI1 _ (List.mem_of_getElem? (i := 165) rfl) rfl
theorem la_Compiler_3 : (Jvm.Cond.laysFinal "ColonMachine$Compiler" "ColonMachine$Compiler" "out" "LColonMachine$Out;") ∈ TB := tbI1 _ (List.mem_of_getElem? (i := 167) rfl) rfl
theorem la_Compiler_4 : (Jvm.Cond.laysFinal "ColonMachine$Compiler" "ColonMachine$Compiler" "items" "[LColonMachine$Item;") ∈ TB := tbI1 _ (List.mem_of_getElem? (i := 169) rfl) rfl
theorem la_Compiler_5 : (Jvm.Cond.lays "ColonMachine$Compiler" "ColonMachine$Compiler" "size" "I") ∈ TB := tbI1 _ (List.mem_of_getElem? (i := 171) rfl) rfl
theorem la_Compiler_6 : (Jvm.Cond.lays "ColonMachine$Compiler" "ColonMachine$Compiler" "compiling" "Z") ∈ TB := tbI1 _ (List.mem_of_getElem? (i := 173) rfl) rfl
theorem la_Compiler_7 : (Jvm.Cond.lays "ColonMachine$Compiler" "ColonMachine$Compiler" "name" "J") ∈ TB := tbI1 _ (List.mem_of_getElem? (i := 175) rfl) rfl
theorem la_Compiler_8 : (Jvm.Cond.laysFinal "ColonMachine$Compiler" "ColonMachine$Compiler" "openers" "LColonMachine$Cells;") ∈ TB := tbI1 _ (List.mem_of_getElem? (i := 177) rfl) rfl
theorem la_Compiler_9 : (Jvm.Cond.laysFinal "ColonMachine$Compiler" "ColonMachine$Compiler" "openPlaces" "LColonMachine$Cells;") ∈ TB := tbI1 _ (List.mem_of_getElem? (i := 179) rfl) rfl
theorem la_Item_0 : (Jvm.Cond.laysFinal "ColonMachine$Item" "ColonMachine$Item" "kind" "I") ∈ TB := tbI3 _ (List.mem_of_getElem? (i := 86) rfl) rfl
theorem la_Item_1 : (Jvm.Cond.laysFinal "ColonMachine$Item" "ColonMachine$Item" "text" "[I") ∈ TB := tbI3 _ (List.mem_of_getElem? (i := 88) rfl) rfl
theorem la_Item_2 : (Jvm.Cond.lays "ColonMachine$Item" "ColonMachine$Item" "value" "I") ∈ TB := tbI3 _ (List.mem_of_getElem? (i := 90) rfl) rfl
theorem la_Memory_0 : (Jvm.Cond.laysFinal "ColonMachine$Memory" "ColonMachine$Memory" "cells" "[I") ∈ TB := tbI1 _ (List.mem_of_getElem? (i := 84) rfl) rfl
theorem la_Memory_1 : (Jvm.Cond.laysFinal "ColonMachine$Memory" "ColonMachine$Memory" "blockOf" "[I") ∈ TB := tbI1 _ (List.mem_of_getElem? (i := 86) rfl) rfl
theorem la_Memory_2 : (Jvm.Cond.lays "ColonMachine$Memory" "ColonMachine$Memory" "here" "I") ∈ TB := tbI1 _ (List.mem_of_getElem? (i := 88) rfl) rfl
theorem la_Out_0 : (Jvm.Cond.laysFinal "ColonMachine$Out" "ColonMachine$Out" "bytes" "[I") ∈ TB := tbI1 _ (List.mem_of_getElem? (i := 99) rfl) rfl
theorem la_Out_1 : (Jvm.Cond.lays "ColonMachine$Out" "ColonMachine$Out" "size" "I") ∈ TB := tbI1 _ (List.mem_of_getElem? (i := 101) rfl) rfl
theorem la_Primitives_0 : (Jvm.Cond.laysFinal "ColonMachine$Primitives" "ColonMachine$Primitives" "data" "LColonMachine$Cells;") ∈ TB := tbI1 _ (List.mem_of_getElem? (i := 195) rfl) rfl
theorem la_Primitives_1 : (Jvm.Cond.laysFinal "ColonMachine$Primitives" "ColonMachine$Primitives" "returns" "LColonMachine$Cells;") ∈ TB := tbI1 _ (List.mem_of_getElem? (i := 197) rfl) rfl
theorem la_Primitives_2 : (Jvm.Cond.laysFinal "ColonMachine$Primitives" "ColonMachine$Primitives" "calls" "LColonMachine$Calls;") ∈ TB := tbI1 _ (List.mem_of_getElem? (i := 199) rfl) rfl
theorem la_Primitives_3 : (Jvm.Cond.laysFinal "ColonMachine$Primitives" "ColonMachine$Primitives" "memory" "LColonMachine$Memory;") ∈ TB := tbI1 _ (List.mem_of_getElem? (i := 201) rfl) rfl
theorem la_Primitives_4 : (Jvm.Cond.laysFinal "ColonMachine$Primitives" "ColonMachine$Primitives" "out" "LColonMachine$Out;") ∈ TB := tbI1 _ (List.mem_of_getElem? (i := 203) rfl) rfl
theorem la_Primitives_5 : (Jvm.Cond.laysFinal "ColonMachine$Primitives" "ColonMachine$Primitives" "text" "LColonMachine$Text;") ∈ TB := tbI1 _ (List.mem_of_getElem? (i := 205) rfl) rfl
theorem la_Primitives_6 : (Jvm.Cond.laysFinal "ColonMachine$Primitives" "ColonMachine$Primitives" "words" "LColonMachine$Words;") ∈ TB := tbI1 _ (List.mem_of_getElem? (i := 207) rfl) rfl
theorem la_Text_0 : (Jvm.Cond.laysFinal "ColonMachine$Text" "ColonMachine$Text" "bytes" "[I") ∈ TB := tbI1 _ (List.mem_of_getElem? (i := 115) rfl) rfl
theorem la_Text_1 : (Jvm.Cond.lays "ColonMachine$Text" "ColonMachine$Text" "begin" "I") ∈ TB := tbI1 _ (List.mem_of_getElem? (i := 117) rfl) rfl
theorem la_Text_2 : (Jvm.Cond.lays "ColonMachine$Text" "ColonMachine$Text" "end" "I") ∈ TB := tbI1 _ (List.mem_of_getElem? (i := 119) rfl) rfl
theorem la_Text_3 : (Jvm.Cond.lays "ColonMachine$Text" "ColonMachine$Text" "wordBegin" "I") ∈ TB := tbI1 _ (List.mem_of_getElem? (i := 121) rfl) rfl
theorem la_Text_4 : (Jvm.Cond.lays "ColonMachine$Text" "ColonMachine$Text" "wordEnd" "I") ∈ TB := tbI1 _ (List.mem_of_getElem? (i := 123) rfl) rfl
theorem la_Word_0 : (Jvm.Cond.laysFinal "ColonMachine$Word" "ColonMachine$Word" "name" "J") ∈ TB := tbI3 _ (List.mem_of_getElem? (i := 118) rfl) rfl
theorem la_Word_1 : (Jvm.Cond.laysFinal "ColonMachine$Word" "ColonMachine$Word" "kind" "I") ∈ TB := tbI3 _ (List.mem_of_getElem? (i := 120) rfl) rfl
theorem la_Word_2 : (Jvm.Cond.laysFinal "ColonMachine$Word" "ColonMachine$Word" "value" "I") ∈ TB := tbI3 _ (List.mem_of_getElem? (i := 122) rfl) rfl
theorem la_Word_3 : (Jvm.Cond.laysFinal "ColonMachine$Word" "ColonMachine$Word" "body" "[LColonMachine$Item;") ∈ TB := tbI3 _ (List.mem_of_getElem? (i := 124) rfl) rfl
theorem la_Word_4 : (Jvm.Cond.lays "ColonMachine$Word" "ColonMachine$Word" "immediate" "Z") ∈ TB := tbI3 _ (List.mem_of_getElem? (i := 126) rfl) rfl
theorem la_Word_5 : (Jvm.Cond.lays "ColonMachine$Word" "ColonMachine$Word" "behaviourOwner" "I") ∈ TB := tbI3 _ (List.mem_of_getElem? (i := 128) rfl) rfl
theorem la_Word_6 : (Jvm.Cond.lays "ColonMachine$Word" "ColonMachine$Word" "behaviourPlace" "I") ∈ TB := tbI3 _ (List.mem_of_getElem? (i := 130) rfl) rfl
theorem la_Words_0 : (Jvm.Cond.laysFinal "ColonMachine$Words" "ColonMachine$Words" "words" "[LColonMachine$Word;") ∈ TB := tbI1 _ (List.mem_of_getElem? (i := 136) rfl) rfl
theorem la_Words_1 : (Jvm.Cond.lays "ColonMachine$Words" "ColonMachine$Words" "size" "I") ∈ TB := tbI1 _ (List.mem_of_getElem? (i := 138) rfl) rfl
theorem la_Mach_0 : (Jvm.Cond.laysFinal "ColonMachine" "ColonMachine" "data" "LColonMachine$Cells;") ∈ TB := tbI1 _ (List.mem_of_getElem? (i := 220) rfl) rfl
theorem la_Mach_1 : (Jvm.Cond.laysFinal "ColonMachine" "ColonMachine" "returns" "LColonMachine$Cells;") ∈ TB := tbI1 _ (List.mem_of_getElem? (i := 222) rfl) rfl
theorem la_Mach_2 : (Jvm.Cond.laysFinal "ColonMachine" "ColonMachine" "calls" "LColonMachine$Calls;") ∈ TB := tbI1 _ (List.mem_of_getElem? (i := 224) rfl) rfl
theorem la_Mach_3 : (Jvm.Cond.laysFinal "ColonMachine" "ColonMachine" "memory" "LColonMachine$Memory;") ∈ TB := tbI1 _ (List.mem_of_getElem? (i := 226) rfl) rfl
theorem la_Mach_4 : (Jvm.Cond.laysFinal "ColonMachine" "ColonMachine" "out" "LColonMachine$Out;") ∈ TB := tbI1 _ (List.mem_of_getElem? (i := 228) rfl) rfl
theorem la_Mach_5 : (Jvm.Cond.laysFinal "ColonMachine" "ColonMachine" "text" "LColonMachine$Text;") ∈ TB := tbI1 _ (List.mem_of_getElem? (i := 230) rfl) rfl
theorem la_Mach_6 : (Jvm.Cond.laysFinal "ColonMachine" "ColonMachine" "words" "LColonMachine$Words;") ∈ TB := tbI1 _ (List.mem_of_getElem? (i := 232) rfl) rfl
theorem la_Mach_7 : (Jvm.Cond.laysFinal "ColonMachine" "ColonMachine" "compiler" "LColonMachine$Compiler;") ∈ TB := tbI1 _ (List.mem_of_getElem? (i := 234) rfl) rfl
theorem la_Mach_8 : (Jvm.Cond.laysFinal "ColonMachine" "ColonMachine" "primitives" "LColonMachine$Primitives;") ∈ TB := tbI1 _ (List.mem_of_getElem? (i := 236) rfl) rfl
theorem la_Mach_9 : (Jvm.Cond.lays "ColonMachine" "ColonMachine" "latestCode" "I") ∈ TB := tbI1 _ (List.mem_of_getElem? (i := 238) rfl) rfl
theorem la_Mod_0 : (Jvm.Cond.laysFinal "ColonMachineModel" "ColonMachineModel" "namesA" "[J") ∈ TB := tbI7 _ (List.mem_of_getElem? (i := 196) rfl) rfl
theorem la_Mod_1 : (Jvm.Cond.laysFinal "ColonMachineModel" "ColonMachineModel" "namesB" "[J") ∈ TB := tbI7 _ (List.mem_of_getElem? (i := 198) rfl) rfl
theorem la_Mod_2 : (Jvm.Cond.laysFinal "ColonMachineModel" "ColonMachineModel" "cellsA" "[I") ∈ TB := tbI7 _ (List.mem_of_getElem? (i := 200) rfl) rfl
theorem la_Mod_3 : (Jvm.Cond.laysFinal "ColonMachineModel" "ColonMachineModel" "cellsB" "[I") ∈ TB := tbI7 _ (List.mem_of_getElem? (i := 202) rfl) rfl
theorem la_Mod_4 : (Jvm.Cond.laysFinal "ColonMachineModel" "ColonMachineModel" "specials" "[J") ∈ TB := tbI7 _ (List.mem_of_getElem? (i := 204) rfl) rfl
theorem la_Mod_5 : (Jvm.Cond.laysFinal "ColonMachineModel" "ColonMachineModel" "data" "[I") ∈ TB := tbI7 _ (List.mem_of_getElem? (i := 206) rfl) rfl
theorem la_Mod_6 : (Jvm.Cond.lays "ColonMachineModel" "ColonMachineModel" "depth" "I") ∈ TB := tbI7 _ (List.mem_of_getElem? (i := 208) rfl) rfl
theorem la_Mod_7 : (Jvm.Cond.laysFinal "ColonMachineModel" "ColonMachineModel" "returns" "[I") ∈ TB := tbI7 _ (List.mem_of_getElem? (i := 210) rfl) rfl
theorem la_Mod_8 : (Jvm.Cond.lays "ColonMachineModel" "ColonMachineModel" "returned" "I") ∈ TB := tbI7 _ (List.mem_of_getElem? (i := 212) rfl) rfl
theorem la_Mod_9 : (Jvm.Cond.laysFinal "ColonMachineModel" "ColonMachineModel" "memory" "[I") ∈ TB := tbI7 _ (List.mem_of_getElem? (i := 214) rfl) rfl
theorem la_Mod_10 : (Jvm.Cond.lays "ColonMachineModel" "ColonMachineModel" "here" "I") ∈ TB := tbI7 _ (List.mem_of_getElem? (i := 216) rfl) rfl
theorem la_Mod_11 : (Jvm.Cond.lays "ColonMachineModel" "ColonMachineModel" "blocks" "I") ∈ TB := tbI7 _ (List.mem_of_getElem? (i := 218) rfl) rfl
theorem la_Mod_12 : (Jvm.Cond.laysFinal "ColonMachineModel" "ColonMachineModel" "blockAt" "[I") ∈ TB := tbI7 _ (List.mem_of_getElem? (i := 220) rfl) rfl
theorem la_Mod_13 : (Jvm.Cond.laysFinal "ColonMachineModel" "ColonMachineModel" "blockSize" "[I") ∈ TB := tbI7 _ (List.mem_of_getElem? (i := 222) rfl) rfl
theorem la_Mod_14 : (Jvm.Cond.lays "ColonMachineModel" "ColonMachineModel" "words" "I") ∈ TB := tbI7 _ (List.mem_of_getElem? (i := 224) rfl) rfl
theorem la_Mod_15 : (Jvm.Cond.laysFinal "ColonMachineModel" "ColonMachineModel" "name" "[J") ∈ TB := tbI7 _ (List.mem_of_getElem? (i := 226) rfl) rfl
theorem la_Mod_16 : (Jvm.Cond.laysFinal "ColonMachineModel" "ColonMachineModel" "kind" "[I") ∈ TB := tbI7 _ (List.mem_of_getElem? (i := 228) rfl) rfl
theorem la_Mod_17 : (Jvm.Cond.laysFinal "ColonMachineModel" "ColonMachineModel" "value" "[I") ∈ TB := tbI7 _ (List.mem_of_getElem? (i := 230) rfl) rfl
theorem la_Mod_18 : (Jvm.Cond.laysFinal "ColonMachineModel" "ColonMachineModel" "behaviour" "[I") ∈ TB := tbI7 _ (List.mem_of_getElem? (i := 232) rfl) rfl
theorem la_Mod_19 : (Jvm.Cond.laysFinal "ColonMachineModel" "ColonMachineModel" "behaviourAt" "[I") ∈ TB := tbI7 _ (List.mem_of_getElem? (i := 234) rfl) rfl
theorem la_Mod_20 : (Jvm.Cond.laysFinal "ColonMachineModel" "ColonMachineModel" "immediate" "[Z") ∈ TB := tbI7 _ (List.mem_of_getElem? (i := 236) rfl) rfl
theorem la_Mod_21 : (Jvm.Cond.laysFinal "ColonMachineModel" "ColonMachineModel" "saidAt" "[I") ∈ TB := tbI7 _ (List.mem_of_getElem? (i := 238) rfl) rfl
theorem la_Mod_22 : (Jvm.Cond.laysFinal "ColonMachineModel" "ColonMachineModel" "bodySize" "[I") ∈ TB := tbI8 _ (List.mem_of_getElem? (i := 0) rfl) rfl
theorem la_Mod_23 : (Jvm.Cond.laysFinal "ColonMachineModel" "ColonMachineModel" "op" "[I") ∈ TB := tbI8 _ (List.mem_of_getElem? (i := 2) rfl) rfl
theorem la_Mod_24 : (Jvm.Cond.laysFinal "ColonMachineModel" "ColonMachineModel" "argument" "[I") ∈ TB := tbI8 _ (List.mem_of_getElem? (i := 4) rfl) rfl
theorem la_Mod_25 : (Jvm.Cond.laysFinal "ColonMachineModel" "ColonMachineModel" "length" "[I") ∈ TB := tbI8 _ (List.mem_of_getElem? (i := 6) rfl) rfl
theorem la_Mod_26 : (Jvm.Cond.lays "ColonMachineModel" "ColonMachineModel" "said" "I") ∈ TB := tbI8 _ (List.mem_of_getElem? (i := 8) rfl) rfl
theorem la_Mod_27 : (Jvm.Cond.laysFinal "ColonMachineModel" "ColonMachineModel" "sayings" "[I") ∈ TB := tbI8 _ (List.mem_of_getElem? (i := 10) rfl) rfl
theorem la_Mod_28 : (Jvm.Cond.lays "ColonMachineModel" "ColonMachineModel" "calls" "I") ∈ TB := tbI8 _ (List.mem_of_getElem? (i := 12) rfl) rfl
theorem la_Mod_29 : (Jvm.Cond.laysFinal "ColonMachineModel" "ColonMachineModel" "callBody" "[I") ∈ TB := tbI8 _ (List.mem_of_getElem? (i := 14) rfl) rfl
theorem la_Mod_30 : (Jvm.Cond.laysFinal "ColonMachineModel" "ColonMachineModel" "callAt" "[I") ∈ TB := tbI8 _ (List.mem_of_getElem? (i := 16) rfl) rfl
theorem la_Mod_31 : (Jvm.Cond.laysFinal "ColonMachineModel" "ColonMachineModel" "callCells" "[I") ∈ TB := tbI8 _ (List.mem_of_getElem? (i := 18) rfl) rfl
theorem la_Mod_32 : (Jvm.Cond.laysFinal "ColonMachineModel" "ColonMachineModel" "callReturns" "[I") ∈ TB := tbI8 _ (List.mem_of_getElem? (i := 20) rfl) rfl
theorem la_Mod_33 : (Jvm.Cond.lays "ColonMachineModel" "ColonMachineModel" "size" "I") ∈ TB := tbI8 _ (List.mem_of_getElem? (i := 22) rfl) rfl
theorem la_Mod_34 : (Jvm.Cond.lays "ColonMachineModel" "ColonMachineModel" "at" "I") ∈ TB := tbI8 _ (List.mem_of_getElem? (i := 24) rfl) rfl
theorem la_Mod_35 : (Jvm.Cond.laysFinal "ColonMachineModel" "ColonMachineModel" "text" "[I") ∈ TB := tbI8 _ (List.mem_of_getElem? (i := 26) rfl) rfl
theorem la_Mod_36 : (Jvm.Cond.lays "ColonMachineModel" "ColonMachineModel" "outSize" "I") ∈ TB := tbI8 _ (List.mem_of_getElem? (i := 28) rfl) rfl
theorem la_Mod_37 : (Jvm.Cond.laysFinal "ColonMachineModel" "ColonMachineModel" "out" "[I") ∈ TB := tbI8 _ (List.mem_of_getElem? (i := 30) rfl) rfl
theorem la_Mod_38 : (Jvm.Cond.lays "ColonMachineModel" "ColonMachineModel" "compiling" "Z") ∈ TB := tbI8 _ (List.mem_of_getElem? (i := 32) rfl) rfl
theorem la_Mod_39 : (Jvm.Cond.lays "ColonMachineModel" "ColonMachineModel" "gaps" "I") ∈ TB := tbI8 _ (List.mem_of_getElem? (i := 34) rfl) rfl
theorem la_Mod_40 : (Jvm.Cond.laysFinal "ColonMachineModel" "ColonMachineModel" "gapKind" "[I") ∈ TB := tbI8 _ (List.mem_of_getElem? (i := 36) rfl) rfl
theorem la_Mod_41 : (Jvm.Cond.laysFinal "ColonMachineModel" "ColonMachineModel" "gapAt" "[I") ∈ TB := tbI8 _ (List.mem_of_getElem? (i := 38) rfl) rfl
theorem la_Mod_42 : (Jvm.Cond.lays "ColonMachineModel" "ColonMachineModel" "fault" "I") ∈ TB := tbI8 _ (List.mem_of_getElem? (i := 40) rfl) rfl
theorem la_Mod_43 : (Jvm.Cond.lays "ColonMachineModel" "ColonMachineModel" "error" "I") ∈ TB := tbI8 _ (List.mem_of_getElem? (i := 42) rfl) rfl
theorem la_Mod_44 : (Jvm.Cond.lays "ColonMachineModel" "ColonMachineModel" "code" "I") ∈ TB := tbI8 _ (List.mem_of_getElem? (i := 44) rfl) rfl
theorem la_Mod_45 : (Jvm.Cond.lays "ColonMachineModel" "ColonMachineModel" "key" "J") ∈ TB := tbI8 _ (List.mem_of_getElem? (i := 46) rfl) rfl
theorem la_Mod_46 : (Jvm.Cond.lays "ColonMachineModel" "ColonMachineModel" "wordAt" "I") ∈ TB := tbI8 _ (List.mem_of_getElem? (i := 48) rfl) rfl
theorem la_Mod_47 : (Jvm.Cond.lays "ColonMachineModel" "ColonMachineModel" "wordSize" "I") ∈ TB := tbI8 _ (List.mem_of_getElem? (i := 50) rfl) rfl
def T_Calls : u_T := fun k => match k with
  | 0 => ("ColonMachine$Calls", "owners", "[I", true)
  | 1 => ("ColonMachine$Calls", "places", "[I", true)
  | 2 => ("ColonMachine$Calls", "returnSizes", "[I", true)
  | 3 => ("ColonMachine$Calls", "dataSizes", "[I", true)
  | _ => ("ColonMachine$Calls", "size", "I", false)
def t_Calls : Nat → FieldType := fun k => match k with
  | 0 => (.array .int)
  | 1 => (.array .int)
  | 2 => (.array .int)
  | 3 => (.array .int)
  | _ => .int
theorem n_Calls : ∀ a, a < 5 → ∀ b, b < 5 → a ≠ b → (T_Calls a).2.1 ≠ (T_Calls b).2.1 := by decide +kernel
theorem tk_Calls : ∀ k, k < 5 → parseFieldDescriptor (T_Calls k).2.2.1 = some (t_Calls k) := by decide +kernel
theorem i_Calls : ∀ w ∈ u_ws "ColonMachine$Calls" T_Calls 5, w ∈ TB := List.forall_mem_cons.2 ⟨la_Calls_0, List.forall_mem_cons.2 ⟨la_Calls_1, List.forall_mem_cons.2 ⟨la_Calls_2, List.forall_mem_cons.2 ⟨la_Calls_3, List.forall_mem_cons.2 ⟨la_Calls_4, fun _ h => absurd h List.not_mem_nil⟩⟩⟩⟩⟩
def T_Cells : u_T := fun k => match k with
  | 0 => ("ColonMachine$Cells", "cells", "[I", true)
  | _ => ("ColonMachine$Cells", "size", "I", false)
def t_Cells : Nat → FieldType := fun k => match k with
  | 0 => (.array .int)
  | _ => .int
theorem n_Cells : ∀ a, a < 2 → ∀ b, b < 2 → a ≠ b → (T_Cells a).2.1 ≠ (T_Cells b).2.1 := by decide +kernel
theorem tk_Cells : ∀ k, k < 2 → parseFieldDescriptor (T_Cells k).2.2.1 = some (t_Cells k) := by decide +kernel
theorem i_Cells : ∀ w ∈ u_ws "ColonMachine$Cells" T_Cells 2, w ∈ TB := List.forall_mem_cons.2 ⟨la_Cells_0, List.forall_mem_cons.2 ⟨la_Cells_1, fun _ h => absurd h List.not_mem_nil⟩⟩
def T_Compiler : u_T := fun k => match k with
  | 0 => ("ColonMachine$Compiler", "text", "LColonMachine$Text;", true)
  | 1 => ("ColonMachine$Compiler", "words", "LColonMachine$Words;", true)
  | 2 => ("ColonMachine$Compiler", "memory", "LColonMachine$Memory;", true)
  | 3 => ("ColonMachine$Compiler", "out", "LColonMachine$Out;", true)
  | 4 => ("ColonMachine$Compiler", "items", "[LColonMachine$Item;", true)
  | 5 => ("ColonMachine$Compiler", "size", "I", false)
  | 6 => ("ColonMachine$Compiler", "compiling", "Z", false)
  | 7 => ("ColonMachine$Compiler", "name", "J", false)
  | 8 => ("ColonMachine$Compiler", "openers", "LColonMachine$Cells;", true)
  | _ => ("ColonMachine$Compiler", "openPlaces", "LColonMachine$Cells;", true)
def t_Compiler : Nat → FieldType := fun k => match k with
  | 0 => (.object "ColonMachine$Text")
  | 1 => (.object "ColonMachine$Words")
  | 2 => (.object "ColonMachine$Memory")
  | 3 => (.object "ColonMachine$Out")
  | 4 => (.array (.object "ColonMachine$Item"))
  | 5 => .int
  | 6 => .boolean
  | 7 => .long
  | 8 => (.object "ColonMachine$Cells")
  | _ => (.object "ColonMachine$Cells")
theorem n_Compiler : ∀ a, a < 10 → ∀ b, b < 10 → a ≠ b → (T_Compiler a).2.1 ≠ (T_Compiler b).2.1 := by decide +kernel
theorem tk_Compiler : ∀ k, k < 10 → parseFieldDescriptor (T_Compiler k).2.2.1 = some (t_Compiler k) := by decide +kernel
theorem i_Compiler : ∀ w ∈ u_ws "ColonMachine$Compiler" T_Compiler 10, w ∈ TB := List.forall_mem_cons.2 ⟨la_Compiler_0, List.forall_mem_cons.2 ⟨la_Compiler_1, List.forall_mem_cons.2 ⟨la_Compiler_2, List.forall_mem_cons.2 ⟨la_Compiler_3, List.forall_mem_cons.2 ⟨la_Compiler_4, List.forall_mem_cons.2 ⟨la_Compiler_5, List.forall_mem_cons.2 ⟨la_Compiler_6, List.forall_mem_cons.2 ⟨la_Compiler_7, List.forall_mem_cons.2 ⟨la_Compiler_8, List.forall_mem_cons.2 ⟨la_Compiler_9, fun _ h => absurd h List.not_mem_nil⟩⟩⟩⟩⟩⟩⟩⟩⟩⟩
def T_Item : u_T := fun k => match k with
  | 0 => ("ColonMachine$Item", "kind", "I", true)
  | 1 => ("ColonMachine$Item", "text", "[I", true)
  | _ => ("ColonMachine$Item", "value", "I", false)
def t_Item : Nat → FieldType := fun k => match k with
  | 0 => .int
  | 1 => (.array .int)
  | _ => .int
theorem n_Item : ∀ a, a < 3 → ∀ b, b < 3 → a ≠ b → (T_Item a).2.1 ≠ (T_Item b).2.1 := by decide +kernel
theorem tk_Item : ∀ k, k < 3 → parseFieldDescriptor (T_Item k).2.2.1 = some (t_Item k) := by decide +kernel
theorem i_Item : ∀ w ∈ u_ws "ColonMachine$Item" T_Item 3, w ∈ TB := List.forall_mem_cons.2 ⟨la_Item_0, List.forall_mem_cons.2 ⟨la_Item_1, List.forall_mem_cons.2 ⟨la_Item_2, fun _ h => absurd h List.not_mem_nil⟩⟩⟩
def T_Memory : u_T := fun k => match k with
  | 0 => ("ColonMachine$Memory", "cells", "[I", true)
  | 1 => ("ColonMachine$Memory", "blockOf", "[I", true)
  | _ => ("ColonMachine$Memory", "here", "I", false)
def t_Memory : Nat → FieldType := fun k => match k with
  | 0 => (.array .int)
  | 1 => (.array .int)
  | _ => .int
theorem n_Memory : ∀ a, a < 3 → ∀ b, b < 3 → a ≠ b → (T_Memory a).2.1 ≠ (T_Memory b).2.1 := by decide +kernel
theorem tk_Memory : ∀ k, k < 3 → parseFieldDescriptor (T_Memory k).2.2.1 = some (t_Memory k) := by decide +kernel
theorem i_Memory : ∀ w ∈ u_ws "ColonMachine$Memory" T_Memory 3, w ∈ TB := List.forall_mem_cons.2 ⟨la_Memory_0, List.forall_mem_cons.2 ⟨la_Memory_1, List.forall_mem_cons.2 ⟨la_Memory_2, fun _ h => absurd h List.not_mem_nil⟩⟩⟩
def T_Out : u_T := fun k => match k with
  | 0 => ("ColonMachine$Out", "bytes", "[I", true)
  | _ => ("ColonMachine$Out", "size", "I", false)
def t_Out : Nat → FieldType := fun k => match k with
  | 0 => (.array .int)
  | _ => .int
theorem n_Out : ∀ a, a < 2 → ∀ b, b < 2 → a ≠ b → (T_Out a).2.1 ≠ (T_Out b).2.1 := by decide +kernel
theorem tk_Out : ∀ k, k < 2 → parseFieldDescriptor (T_Out k).2.2.1 = some (t_Out k) := by decide +kernel
theorem i_Out : ∀ w ∈ u_ws "ColonMachine$Out" T_Out 2, w ∈ TB := List.forall_mem_cons.2 ⟨la_Out_0, List.forall_mem_cons.2 ⟨la_Out_1, fun _ h => absurd h List.not_mem_nil⟩⟩
def T_Primitives : u_T := fun k => match k with
  | 0 => ("ColonMachine$Primitives", "data", "LColonMachine$Cells;", true)
  | 1 => ("ColonMachine$Primitives", "returns", "LColonMachine$Cells;", true)
  | 2 => ("ColonMachine$Primitives", "calls", "LColonMachine$Calls;", true)
  | 3 => ("ColonMachine$Primitives", "memory", "LColonMachine$Memory;", true)
  | 4 => ("ColonMachine$Primitives", "out", "LColonMachine$Out;", true)
  | 5 => ("ColonMachine$Primitives", "text", "LColonMachine$Text;", true)
  | _ => ("ColonMachine$Primitives", "words", "LColonMachine$Words;", true)
def t_Primitives : Nat → FieldType := fun k => match k with
  | 0 => (.object "ColonMachine$Cells")
  | 1 => (.object "ColonMachine$Cells")
  | 2 => (.object "ColonMachine$Calls")
  | 3 => (.object "ColonMachine$Memory")
  | 4 => (.object "ColonMachine$Out")
  | 5 => (.object "ColonMachine$Text")
  | _ => (.object "ColonMachine$Words")
theorem n_Primitives : ∀ a, a < 7 → ∀ b, b < 7 → a ≠ b → (T_Primitives a).2.1 ≠ (T_Primitives b).2.1 := by decide +kernel
theorem tk_Primitives : ∀ k, k < 7 → parseFieldDescriptor (T_Primitives k).2.2.1 = some (t_Primitives k) := by decide +kernel
theorem i_Primitives : ∀ w ∈ u_ws "ColonMachine$Primitives" T_Primitives 7, w ∈ TB := List.forall_mem_cons.2 ⟨la_Primitives_0, List.forall_mem_cons.2 ⟨la_Primitives_1, List.forall_mem_cons.2 ⟨la_Primitives_2, List.forall_mem_cons.2 ⟨la_Primitives_3, List.forall_mem_cons.2 ⟨la_Primitives_4, List.forall_mem_cons.2 ⟨la_Primitives_5, List.forall_mem_cons.2 ⟨la_Primitives_6, fun _ h => absurd h List.not_mem_nil⟩⟩⟩⟩⟩⟩⟩
def T_Text : u_T := fun k => match k with
  | 0 => ("ColonMachine$Text", "bytes", "[I", true)
  | 1 => ("ColonMachine$Text", "begin", "I", false)
  | 2 => ("ColonMachine$Text", "end", "I", false)
  | 3 => ("ColonMachine$Text", "wordBegin", "I", false)
  | _ => ("ColonMachine$Text", "wordEnd", "I", false)
def t_Text : Nat → FieldType := fun k => match k with
  | 0 => (.array .int)
  | 1 => .int
  | 2 => .int
  | 3 => .int
  | _ => .int
theorem n_Text : ∀ a, a < 5 → ∀ b, b < 5 → a ≠ b → (T_Text a).2.1 ≠ (T_Text b).2.1 := by decide +kernel
theorem tk_Text : ∀ k, k < 5 → parseFieldDescriptor (T_Text k).2.2.1 = some (t_Text k) := by decide +kernel
theorem i_Text : ∀ w ∈ u_ws "ColonMachine$Text" T_Text 5, w ∈ TB := List.forall_mem_cons.2 ⟨la_Text_0, List.forall_mem_cons.2 ⟨la_Text_1, List.forall_mem_cons.2 ⟨la_Text_2, List.forall_mem_cons.2 ⟨la_Text_3, List.forall_mem_cons.2 ⟨la_Text_4, fun _ h => absurd h List.not_mem_nil⟩⟩⟩⟩⟩
def T_Word : u_T := fun k => match k with
  | 0 => ("ColonMachine$Word", "name", "J", true)
  | 1 => ("ColonMachine$Word", "kind", "I", true)
  | 2 => ("ColonMachine$Word", "value", "I", true)
  | 3 => ("ColonMachine$Word", "body", "[LColonMachine$Item;", true)
  | 4 => ("ColonMachine$Word", "immediate", "Z", false)
  | 5 => ("ColonMachine$Word", "behaviourOwner", "I", false)
  | _ => ("ColonMachine$Word", "behaviourPlace", "I", false)
def t_Word : Nat → FieldType := fun k => match k with
  | 0 => .long
  | 1 => .int
  | 2 => .int
  | 3 => (.array (.object "ColonMachine$Item"))
  | 4 => .boolean
  | 5 => .int
  | _ => .int
theorem n_Word : ∀ a, a < 7 → ∀ b, b < 7 → a ≠ b → (T_Word a).2.1 ≠ (T_Word b).2.1 := by decide +kernel
theorem tk_Word : ∀ k, k < 7 → parseFieldDescriptor (T_Word k).2.2.1 = some (t_Word k) := by decide +kernel
theorem i_Word : ∀ w ∈ u_ws "ColonMachine$Word" T_Word 7, w ∈ TB := List.forall_mem_cons.2 ⟨la_Word_0, List.forall_mem_cons.2 ⟨la_Word_1, List.forall_mem_cons.2 ⟨la_Word_2, List.forall_mem_cons.2 ⟨la_Word_3, List.forall_mem_cons.2 ⟨la_Word_4, List.forall_mem_cons.2 ⟨la_Word_5, List.forall_mem_cons.2 ⟨la_Word_6, fun _ h => absurd h List.not_mem_nil⟩⟩⟩⟩⟩⟩⟩
def T_Words : u_T := fun k => match k with
  | 0 => ("ColonMachine$Words", "words", "[LColonMachine$Word;", true)
  | _ => ("ColonMachine$Words", "size", "I", false)
def t_Words : Nat → FieldType := fun k => match k with
  | 0 => (.array (.object "ColonMachine$Word"))
  | _ => .int
theorem n_Words : ∀ a, a < 2 → ∀ b, b < 2 → a ≠ b → (T_Words a).2.1 ≠ (T_Words b).2.1 := by decide +kernel
theorem tk_Words : ∀ k, k < 2 → parseFieldDescriptor (T_Words k).2.2.1 = some (t_Words k) := by decide +kernel
theorem i_Words : ∀ w ∈ u_ws "ColonMachine$Words" T_Words 2, w ∈ TB := List.forall_mem_cons.2 ⟨la_Words_0, List.forall_mem_cons.2 ⟨la_Words_1, fun _ h => absurd h List.not_mem_nil⟩⟩
def T_Mach : u_T := fun k => match k with
  | 0 => ("ColonMachine", "data", "LColonMachine$Cells;", true)
  | 1 => ("ColonMachine", "returns", "LColonMachine$Cells;", true)
  | 2 => ("ColonMachine", "calls", "LColonMachine$Calls;", true)
  | 3 => ("ColonMachine", "memory", "LColonMachine$Memory;", true)
  | 4 => ("ColonMachine", "out", "LColonMachine$Out;", true)
  | 5 => ("ColonMachine", "text", "LColonMachine$Text;", true)
  | 6 => ("ColonMachine", "words", "LColonMachine$Words;", true)
  | 7 => ("ColonMachine", "compiler", "LColonMachine$Compiler;", true)
  | 8 => ("ColonMachine", "primitives", "LColonMachine$Primitives;", true)
  | _ => ("ColonMachine", "latestCode", "I", false)
def t_Mach : Nat → FieldType := fun k => match k with
  | 0 => (.object "ColonMachine$Cells")
  | 1 => (.object "ColonMachine$Cells")
  | 2 => (.object "ColonMachine$Calls")
  | 3 => (.object "ColonMachine$Memory")
  | 4 => (.object "ColonMachine$Out")
  | 5 => (.object "ColonMachine$Text")
  | 6 => (.object "ColonMachine$Words")
  | 7 => (.object "ColonMachine$Compiler")
  | 8 => (.object "ColonMachine$Primitives")
  | _ => .int
theorem n_Mach : ∀ a, a < 10 → ∀ b, b < 10 → a ≠ b → (T_Mach a).2.1 ≠ (T_Mach b).2.1 := by decide +kernel
theorem tk_Mach : ∀ k, k < 10 → parseFieldDescriptor (T_Mach k).2.2.1 = some (t_Mach k) := by decide +kernel
theorem i_Mach : ∀ w ∈ u_ws "ColonMachine" T_Mach 10, w ∈ TB := List.forall_mem_cons.2 ⟨la_Mach_0, List.forall_mem_cons.2 ⟨la_Mach_1, List.forall_mem_cons.2 ⟨la_Mach_2, List.forall_mem_cons.2 ⟨la_Mach_3, List.forall_mem_cons.2 ⟨la_Mach_4, List.forall_mem_cons.2 ⟨la_Mach_5, List.forall_mem_cons.2 ⟨la_Mach_6, List.forall_mem_cons.2 ⟨la_Mach_7, List.forall_mem_cons.2 ⟨la_Mach_8, List.forall_mem_cons.2 ⟨la_Mach_9, fun _ h => absurd h List.not_mem_nil⟩⟩⟩⟩⟩⟩⟩⟩⟩⟩
def T_Mod : u_T := fun k => match k with
  | 0 => ("ColonMachineModel", "namesA", "[J", true)
  | 1 => ("ColonMachineModel", "namesB", "[J", true)
  | 2 => ("ColonMachineModel", "cellsA", "[I", true)
  | 3 => ("ColonMachineModel", "cellsB", "[I", true)
  | 4 => ("ColonMachineModel", "specials", "[J", true)
  | 5 => ("ColonMachineModel", "data", "[I", true)
  | 6 => ("ColonMachineModel", "depth", "I", false)
  | 7 => ("ColonMachineModel", "returns", "[I", true)
  | 8 => ("ColonMachineModel", "returned", "I", false)
  | 9 => ("ColonMachineModel", "memory", "[I", true)
  | 10 => ("ColonMachineModel", "here", "I", false)
  | 11 => ("ColonMachineModel", "blocks", "I", false)
  | 12 => ("ColonMachineModel", "blockAt", "[I", true)
  | 13 => ("ColonMachineModel", "blockSize", "[I", true)
  | 14 => ("ColonMachineModel", "words", "I", false)
  | 15 => ("ColonMachineModel", "name", "[J", true)
  | 16 => ("ColonMachineModel", "kind", "[I", true)
  | 17 => ("ColonMachineModel", "value", "[I", true)
  | 18 => ("ColonMachineModel", "behaviour", "[I", true)
  | 19 => ("ColonMachineModel", "behaviourAt", "[I", true)
  | 20 => ("ColonMachineModel", "immediate", "[Z", true)
  | 21 => ("ColonMachineModel", "saidAt", "[I", true)
  | 22 => ("ColonMachineModel", "bodySize", "[I", true)
  | 23 => ("ColonMachineModel", "op", "[I", true)
  | 24 => ("ColonMachineModel", "argument", "[I", true)
  | 25 => ("ColonMachineModel", "length", "[I", true)
  | 26 => ("ColonMachineModel", "said", "I", false)
  | 27 => ("ColonMachineModel", "sayings", "[I", true)
  | 28 => ("ColonMachineModel", "calls", "I", false)
  | 29 => ("ColonMachineModel", "callBody", "[I", true)
  | 30 => ("ColonMachineModel", "callAt", "[I", true)
  | 31 => ("ColonMachineModel", "callCells", "[I", true)
  | 32 => ("ColonMachineModel", "callReturns", "[I", true)
  | 33 => ("ColonMachineModel", "size", "I", false)
  | 34 => ("ColonMachineModel", "at", "I", false)
  | 35 => ("ColonMachineModel", "text", "[I", true)
  | 36 => ("ColonMachineModel", "outSize", "I", false)
  | 37 => ("ColonMachineModel", "out", "[I", true)
  | 38 => ("ColonMachineModel", "compiling", "Z", false)
  | 39 => ("ColonMachineModel", "gaps", "I", false)
  | 40 => ("ColonMachineModel", "gapKind", "[I", true)
  | 41 => ("ColonMachineModel", "gapAt", "[I", true)
  | 42 => ("ColonMachineModel", "fault", "I", false)
  | 43 => ("ColonMachineModel", "error", "I", false)
  | 44 => ("ColonMachineModel", "code", "I", false)
  | 45 => ("ColonMachineModel", "key", "J", false)
  | 46 => ("ColonMachineModel", "wordAt", "I", false)
  | _ => ("ColonMachineModel", "wordSize", "I", false)
def t_Mod : Nat → FieldType := fun k => match k with
  | 0 => (.array .long)
  | 1 => (.array .long)
  | 2 => (.array .int)
  | 3 => (.array .int)
  | 4 => (.array .long)
  | 5 => (.array .int)
  | 6 => .int
  | 7 => (.array .int)
  | 8 => .int
  | 9 => (.array .int)
  | 10 => .int
  | 11 => .int
  | 12 => (.array .int)
  | 13 => (.array .int)
  | 14 => .int
  | 15 => (.array .long)
  | 16 => (.array .int)
  | 17 => (.array .int)
  | 18 => (.array .int)
  | 19 => (.array .int)
  | 20 => (.array .boolean)
  | 21 => (.array .int)
  | 22 => (.array .int)
  | 23 => (.array .int)
  | 24 => (.array .int)
  | 25 => (.array .int)
  | 26 => .int
  | 27 => (.array .int)
  | 28 => .int
  | 29 => (.array .int)
  | 30 => (.array .int)
  | 31 => (.array .int)
  | 32 => (.array .int)
  | 33 => .int
  | 34 => .int
  | 35 => (.array .int)
  | 36 => .int
  | 37 => (.array .int)
  | 38 => .boolean
  | 39 => .int
  | 40 => (.array .int)
  | 41 => (.array .int)
  | 42 => .int
  | 43 => .int
  | 44 => .int
  | 45 => .long
  | 46 => .int
  | _ => .int
theorem n_Mod : ∀ a, a < 48 → ∀ b, b < 48 → a ≠ b → (T_Mod a).2.1 ≠ (T_Mod b).2.1 := by decide +kernel
theorem tk_Mod : ∀ k, k < 48 → parseFieldDescriptor (T_Mod k).2.2.1 = some (t_Mod k) := by decide +kernel
theorem i_Mod : ∀ w ∈ u_ws "ColonMachineModel" T_Mod 48, w ∈ TB := List.forall_mem_cons.2 ⟨la_Mod_0, List.forall_mem_cons.2 ⟨la_Mod_1, List.forall_mem_cons.2 ⟨la_Mod_2, List.forall_mem_cons.2 ⟨la_Mod_3, List.forall_mem_cons.2 ⟨la_Mod_4, List.forall_mem_cons.2 ⟨la_Mod_5, List.forall_mem_cons.2 ⟨la_Mod_6, List.forall_mem_cons.2 ⟨la_Mod_7, List.forall_mem_cons.2 ⟨la_Mod_8, List.forall_mem_cons.2 ⟨la_Mod_9, List.forall_mem_cons.2 ⟨la_Mod_10, List.forall_mem_cons.2 ⟨la_Mod_11, List.forall_mem_cons.2 ⟨la_Mod_12, List.forall_mem_cons.2 ⟨la_Mod_13, List.forall_mem_cons.2 ⟨la_Mod_14, List.forall_mem_cons.2 ⟨la_Mod_15, List.forall_mem_cons.2 ⟨la_Mod_16, List.forall_mem_cons.2 ⟨la_Mod_17, List.forall_mem_cons.2 ⟨la_Mod_18, List.forall_mem_cons.2 ⟨la_Mod_19, List.forall_mem_cons.2 ⟨la_Mod_20, List.forall_mem_cons.2 ⟨la_Mod_21, List.forall_mem_cons.2 ⟨la_Mod_22, List.forall_mem_cons.2 ⟨la_Mod_23, List.forall_mem_cons.2 ⟨la_Mod_24, List.forall_mem_cons.2 ⟨la_Mod_25, List.forall_mem_cons.2 ⟨la_Mod_26, List.forall_mem_cons.2 ⟨la_Mod_27, List.forall_mem_cons.2 ⟨la_Mod_28, List.forall_mem_cons.2 ⟨la_Mod_29, List.forall_mem_cons.2 ⟨la_Mod_30, List.forall_mem_cons.2 ⟨la_Mod_31, List.forall_mem_cons.2 ⟨la_Mod_32, List.forall_mem_cons.2 ⟨la_Mod_33, List.forall_mem_cons.2 ⟨la_Mod_34, List.forall_mem_cons.2 ⟨la_Mod_35, List.forall_mem_cons.2 ⟨la_Mod_36, List.forall_mem_cons.2 ⟨la_Mod_37, List.forall_mem_cons.2 ⟨la_Mod_38, List.forall_mem_cons.2 ⟨la_Mod_39, List.forall_mem_cons.2 ⟨la_Mod_40, List.forall_mem_cons.2 ⟨la_Mod_41, List.forall_mem_cons.2 ⟨la_Mod_42, List.forall_mem_cons.2 ⟨la_Mod_43, List.forall_mem_cons.2 ⟨la_Mod_44, List.forall_mem_cons.2 ⟨la_Mod_45, List.forall_mem_cons.2 ⟨la_Mod_46, List.forall_mem_cons.2 ⟨la_Mod_47, fun _ h => absurd h List.not_mem_nil⟩⟩⟩⟩⟩⟩⟩⟩⟩⟩⟩⟩⟩⟩⟩⟩⟩⟩⟩⟩⟩⟩⟩⟩⟩⟩⟩⟩⟩⟩⟩⟩⟩⟩⟩⟩⟩⟩⟩⟩⟩⟩⟩⟩⟩⟩⟩⟩
abbrev classes : List vw_C := [("ColonMachine$Calls", T_Calls, 5), ("ColonMachine$Cells", T_Cells, 2), ("ColonMachine$Compiler", T_Compiler, 10), ("ColonMachine$Item", T_Item, 3), ("ColonMachine$Memory", T_Memory, 3), ("ColonMachine$Out", T_Out, 2), ("ColonMachine$Primitives", T_Primitives, 7), ("ColonMachine$Text", T_Text, 5), ("ColonMachine$Word", T_Word, 7), ("ColonMachine$Words", T_Words, 2), ("ColonMachine", T_Mach, 10), ("ColonMachineModel", T_Mod, 48)]
end
section
/-! own rows: a contract's start and end, calls that put the caller's world back in its order -/
/-- one step of a pure picture: a value gets a name -/
def bd {α β : Type} (x : α) (k : α → β) : β := k x
theorem bd_e {α β : Type} {x q : α} {k : α → β} (h : x = q) : bd x k = k q := by rw [h]; rfl
/-- a method's start: heap size, world, tables -/
def zP (D : va_G) (cl : List vw_C) (tys : List (ClassId × FieldType)) (ws : va_W) (sz : Nat) (U : State) : Prop := U.heap.size = sz ∧ va_P D cl ws U.heap ∧ va_K D cl tys U ∧ va_D (fun _ => True) ws
/-- a method's end -/
def zB (D : va_G) (cl : List vw_C) (tys : List (ClassId × FieldType)) (A : Nat → Prop) (ws : va_W) (t : State) : Prop := va_P D cl ws t.heap ∧ va_K D cl tys t ∧ va_D A ws
theorem zP_blind {D : va_G} {cl : List vw_C} {tys : List (ClassId × FieldType)} {ws : va_W} {sz : Nat} {av : List Value} : FrameBlind (va_Pc av (zP D cl tys ws sz)) := fun a U g mk q => by
  obtain ⟨q0, q1, qP, qK, qD⟩ := q
  exact ⟨q0, q1, qP, va_K.moved (u := U) (U := U.calling g mk a) (Vm.Alike.refl U.vm) qK, qD⟩
theorem zP_pre {D : va_G} {cl : List vw_C} {tys : List (ClassId × FieldType)} {wc : va_W} {H : Heap} {s : State} {A : Nat → Prop} {av : List Value} (hK : va_K D cl tys s) (hP : va_P D cl wc H) (hD : va_D A wc) : ∀ U : State, U.heap = H → s.WarmedH U.vm → va_Pc av (zP D cl tys wc H.size) av.toArray U :=
  fun U hU hW => ⟨rfl, by rw [hU], by rw [hU]; exact hP, va_K.moved hW.alike hK, hD.weaken (fun _ _ _ _ => trivial)⟩
theorem z_fm {α β : Type} {g : α → Option β} {is : List α} {w : List β} (h : is.map g = w.map some) : is.filterMap g = w := by
  have h1 : (is.map g).filterMap id = (w.map some).filterMap id := by rw [h]
  rw [List.filterMap_map, List.filterMap_map] at h1
  have h2 : w.filterMap (id ∘ some) = w := by
    have : (id ∘ some : β → Option β) = some := rfl
    rw [this, List.filterMap_some]
  rw [h2] at h1
  exact h1
theorem zPs {D : va_G} {cl : List vw_C} {ws ws' : va_W} {H : Heap} (h : va_P D cl ws H) (is : List Nat) (hs : is.map (fun i => ws[i]?) = ws'.map some) : va_P D cl ws' H := h.sub is (z_fm hs)
def oc {α β : Type} (r : Option α) (n : β) (k : α → β) : β := match r with
  | none => n
  | some a => k a
theorem oc_n {α β : Type} {r : Option α} {n : β} {k : α → β} (h : r = none) : oc r n k = n := by rw [h]; rfl
theorem oc_s {α β : Type} {r : Option α} {n : β} {k : α → β} {a : α} (h : r = some a) : oc r n k = k a := by rw [h]; rfl
theorem ti_lo (a : Int32) : -2147483648 ≤ a.toInt := Int32.le_toInt a
theorem ti_hi (a : Int32) : a.toInt < 2147483648 := Int32.toInt_lt a
theorem zbm (x : Int) : x.bmod (2 ^ 32) = (x + 2147483648) % 4294967296 - 2147483648 := by
  show Int.bmod x 4294967296 = _
  unfold Int.bmod
  have : ((4294967296 : Nat) : Int) = 4294967296 := rfl
  simp only [this]
  split <;> omega
theorem zbm' (x : Int) : x.bmod 4294967296 = (x + 2147483648) % 4294967296 - 2147483648 := zbm x
theorem z_nb {r : Int32} (h : r = 0 ∨ r = 1) : narrow .boolean (.int r) = .int r := by rcases h with rfl | rfl <;> rfl
theorem z_cl {x : Int32} (h : 0 ≤ x.toInt) : (x.toNatClampNeg : Int) = x.toInt := by
  rw [Int32.toNatClampNeg]
  exact Int.toNat_of_nonneg h
/-- what the parts of the class keep -/
def CellsOk (N : Nat) (n : Int32) : Prop := 0 ≤ n.toInt ∧ n.toInt ≤ (N : Int) ∧ N < 1001
def CallsOk (n : Int32) : Prop := 0 ≤ n.toInt ∧ n.toInt ≤ 40
def TextOk (tb te tw tx : Int32) : Prop := 0 ≤ tb.toInt ∧ tb.toInt ≤ te.toInt ∧ te.toInt ≤ 500 ∧ 0 ≤ tw.toInt ∧ tw.toInt ≤ tx.toInt ∧ tx.toInt ≤ 500
def MemOk (he : Int32) : Prop := 1 ≤ he.toInt ∧ he.toInt ≤ 400
def OutOk (n : Int32) : Prop := 0 ≤ n.toInt ∧ n.toInt ≤ 800
section KSW
variable {p : Program} {l : Launch} {e : Env} {R : Room} {s : State} {m : MethodId} {args : Array Value} {below : List Frame} {meth : Method} {c : Code} {H : Heap} {locs : List Loc} {cells slots : Nat} {Q : State → Prop} {cc : ByteArray} {pc : Nat} {ls : Array Slot} {rest : List Value}
/-- a table's default: none of the keys that go elsewhere -/
theorem lv_tableD (hexec : p.tables.exec = Jvm.exec) (hb : c.code = cc) {dflt lo hi : Int} {offs : Array Int} {len : Nat} {x : Int32} {tgt : Nat} (keys : List Int) (hdg : decode cc pc = .ok (.tableswitch dflt lo hi offs, len)) (hz : offs.size = (hi - lo + 1).toNat) (hk : ∀ n, n < offs.size → offs[n]? = some dflt ∨ (lo + (n : Int)) ∈ keys) (hn : ∀ k ∈ keys, ¬ x.toInt = k) (ht : (pc : Int) + dflt = (tgt : Int))
    (k : W p l e R s m args below meth c H locs cells slots Q (F0 m tgt ls rest)) : W p l e R s m args below meth c H locs cells slots Q (F0 m pc ls (.int x :: rest)) := by
  by_cases h1 : x.toInt < lo
  · exact lv_tableOut hexec hb hdg (Or.inl h1) ht k
  · by_cases h2 : hi < x.toInt
    · exact lv_tableOut hexec hb hdg (Or.inr h2) ht k
    · have hlt : (x.toInt - lo).toNat < offs.size := by omega
      rcases hk _ hlt with h | h
      · exact lv_tableIn hexec hb hdg h1 h2 h ht k
      · exact absurd (by omega : x.toInt = lo + ((x.toInt - lo).toNat : Int)) (hn _ h)
end KSW
theorem co_nI {N : Nat} {n : Int32} (h : CellsOk N n) : (nI N).toInt = (N : Int) := nI_toInt (by unfold CellsOk at h; omega)
section KN
variable {p : Program} {l : Launch} {e : Env} {R : Room} {s : State} {m : MethodId} {args : Array Value} {below : List Frame} {meth : Method} {c : Code} {H : Heap} {locs : List Loc} {cells slots : Nat} {Q : State → Prop}
variable {D : va_G} {cl : List vw_C} {tys : List (ClassId × FieldType)} {pc : Nat} {ls : Array Slot} {rest st0 : List Value} {a : Array Value} {A0 : Nat → Prop} {H0 : Heap} {mc ms : Nat}
theorem kN_si {S : Type} {F : Int32 × S} {K : Int32 × S → Prop} {wc wr w : va_W} {w1 : S → va_W} (w' : S → va_W) (hr : va_Run p l e R s m args below meth c H locs cells slots mc ms (F0 m pc ls st0) rest (va_Qi (fun r u => (r, u) = F ∧ K (r, u)) (fun u => zB D cl tys (va_A wc H.size) (w1 u)) (va_A wc H.size) a) (va_A wc H.size)) (hP : va_P D cl w H) (hD : va_D A0 w) (hS : va_S A0 H0 H locs) (hA : ∀ q, H0.size ≤ q → A0 q) (isC isR : List Nat) (hC : isC.map (fun i => w[i]?) = wc.map some) (hR : isR.map (fun i => w[i]?) = wr.map some) (hn : va_nd isR = true) (hdis : ∀ i ∈ isR, i ∉ isC) (pm : List Nat) (hpn : va_nd pm = true) (hpm : ∀ u, pm.map (fun i => (wr ++ w1 u)[i]?) = (w' u).map some)
    (kk : ∀ (q : Int32 × S) (H1 : Heap) (locs1 : List Loc), F = q → K q → va_P D cl (w' q.2) H1 → va_D A0 (w' q.2) → va_S A0 H0 H1 locs1 → W p l e R s m args below meth c H1 locs1 (cells + mc) (slots + ms) Q (F0 m (pc + 3) ls (.int q.1 :: rest))) : W p l e R s m args below meth c H locs cells slots Q (F0 m pc ls st0) := by
  have hFc := va_free (wc := wc) hD hS hA isC hC
  refine va_calli hr hS (fun q _ h => hFc q h) hFc (fun r u t H1 locs1 ht hvm hw hB hz hk hS1 => ?_)
  obtain ⟨hP1, hK1, hD1⟩ := hB
  rw [ht] at hP1
  obtain ⟨hPj, hDj⟩ := va_join hP hD isC isR hC hR hn hdis hk hFc hP1 hD1
  exact kk (r, u) H1 locs1 hw.1.symm hw.2 (zPs hPj pm (hpm u)) (hDj.sub pm hpn (hpm u)) hS1
theorem kN_pi {F : Int32} {K : Int32 → Prop} {wc wr w : va_W} (hr : va_Run p l e R s m args below meth c H locs cells slots mc ms (F0 m pc ls st0) rest (va_Qi (fun r (_ : Unit) => r = F ∧ K r) (fun _ => zB D cl tys (va_A wc H.size) wc) (va_A wc H.size) a) (va_A wc H.size)) (hP : va_P D cl w H) (hD : va_D A0 w) (hS : va_S A0 H0 H locs) (hA : ∀ q, H0.size ≤ q → A0 q) (isC isR : List Nat) (hC : isC.map (fun i => w[i]?) = wc.map some) (hR : isR.map (fun i => w[i]?) = wr.map some) (hn : va_nd isR = true) (hdis : ∀ i ∈ isR, i ∉ isC) (pm : List Nat) (hpn : va_nd pm = true) (hpm : pm.map (fun i => (wr ++ wc)[i]?) = w.map some)
    (kk : ∀ (q : Int32) (H1 : Heap) (locs1 : List Loc), F = q → K q → va_P D cl w H1 → va_D A0 w → va_S A0 H0 H1 locs1 → W p l e R s m args below meth c H1 locs1 (cells + mc) (slots + ms) Q (F0 m (pc + 3) ls (.int q :: rest))) : W p l e R s m args below meth c H locs cells slots Q (F0 m pc ls st0) := by
  have hFc := va_free (wc := wc) hD hS hA isC hC
  refine va_calli hr hS (fun q _ h => hFc q h) hFc (fun r u t H1 locs1 ht hvm hw hB hz hk hS1 => ?_)
  obtain ⟨hP1, hK1, hD1⟩ := hB
  rw [ht] at hP1
  obtain ⟨hPj, hDj⟩ := va_join hP hD isC isR hC hR hn hdis hk hFc hP1 hD1
  exact kk r H1 locs1 hw.1.symm hw.2 (zPs hPj pm hpm) (hDj.sub pm hpn hpm) hS1
theorem kN_sl {S : Type} {F : Int64 × S} {K : Int64 × S → Prop} {wc wr w : va_W} {w1 : S → va_W} (w' : S → va_W) (hr : va_Run p l e R s m args below meth c H locs cells slots mc ms (F0 m pc ls st0) rest (va_Ql (fun r u => (r, u) = F ∧ K (r, u)) (fun u => zB D cl tys (va_A wc H.size) (w1 u)) (va_A wc H.size) a) (va_A wc H.size)) (hP : va_P D cl w H) (hD : va_D A0 w) (hS : va_S A0 H0 H locs) (hA : ∀ q, H0.size ≤ q → A0 q) (isC isR : List Nat) (hC : isC.map (fun i => w[i]?) = wc.map some) (hR : isR.map (fun i => w[i]?) = wr.map some) (hn : va_nd isR = true) (hdis : ∀ i ∈ isR, i ∉ isC) (pm : List Nat) (hpn : va_nd pm = true) (hpm : ∀ u, pm.map (fun i => (wr ++ w1 u)[i]?) = (w' u).map some)
    (kk : ∀ (q : Int64 × S) (H1 : Heap) (locs1 : List Loc), F = q → K q → va_P D cl (w' q.2) H1 → va_D A0 (w' q.2) → va_S A0 H0 H1 locs1 → W p l e R s m args below meth c H1 locs1 (cells + mc) (slots + ms) Q (F0 m (pc + 3) ls (.long q.1 :: rest))) : W p l e R s m args below meth c H locs cells slots Q (F0 m pc ls st0) := by
  have hFc := va_free (wc := wc) hD hS hA isC hC
  refine va_calll hr hS (fun q _ h => hFc q h) hFc (fun r u t H1 locs1 ht hvm hw hB hz hk hS1 => ?_)
  obtain ⟨hP1, hK1, hD1⟩ := hB
  rw [ht] at hP1
  obtain ⟨hPj, hDj⟩ := va_join hP hD isC isR hC hR hn hdis hk hFc hP1 hD1
  exact kk (r, u) H1 locs1 hw.1.symm hw.2 (zPs hPj pm (hpm u)) (hDj.sub pm hpn (hpm u)) hS1
theorem kN_pl {F : Int64} {K : Int64 → Prop} {wc wr w : va_W} (hr : va_Run p l e R s m args below meth c H locs cells slots mc ms (F0 m pc ls st0) rest (va_Ql (fun r (_ : Unit) => r = F ∧ K r) (fun _ => zB D cl tys (va_A wc H.size) wc) (va_A wc H.size) a) (va_A wc H.size)) (hP : va_P D cl w H) (hD : va_D A0 w) (hS : va_S A0 H0 H locs) (hA : ∀ q, H0.size ≤ q → A0 q) (isC isR : List Nat) (hC : isC.map (fun i => w[i]?) = wc.map some) (hR : isR.map (fun i => w[i]?) = wr.map some) (hn : va_nd isR = true) (hdis : ∀ i ∈ isR, i ∉ isC) (pm : List Nat) (hpn : va_nd pm = true) (hpm : pm.map (fun i => (wr ++ wc)[i]?) = w.map some)
    (kk : ∀ (q : Int64) (H1 : Heap) (locs1 : List Loc), F = q → K q → va_P D cl w H1 → va_D A0 w → va_S A0 H0 H1 locs1 → W p l e R s m args below meth c H1 locs1 (cells + mc) (slots + ms) Q (F0 m (pc + 3) ls (.long q :: rest))) : W p l e R s m args below meth c H locs cells slots Q (F0 m pc ls st0) := by
  have hFc := va_free (wc := wc) hD hS hA isC hC
  refine va_calll hr hS (fun q _ h => hFc q h) hFc (fun r u t H1 locs1 ht hvm hw hB hz hk hS1 => ?_)
  obtain ⟨hP1, hK1, hD1⟩ := hB
  rw [ht] at hP1
  obtain ⟨hPj, hDj⟩ := va_join hP hD isC isR hC hR hn hdis hk hFc hP1 hD1
  exact kk r H1 locs1 hw.1.symm hw.2 (zPs hPj pm hpm) (hDj.sub pm hpn hpm) hS1
theorem kN_sq {S : Type} {F : Option Nat × S} {K : Option Nat × S → Prop} {wc wr w : va_W} {w1 : S → va_W} (w' : S → va_W) (hr : va_Run p l e R s m args below meth c H locs cells slots mc ms (F0 m pc ls st0) rest (va_Qq (fun r u => (r, u) = F ∧ K (r, u)) (fun u => zB D cl tys (va_A wc H.size) (w1 u)) (va_A wc H.size) a) (va_A wc H.size)) (hP : va_P D cl w H) (hD : va_D A0 w) (hS : va_S A0 H0 H locs) (hA : ∀ q, H0.size ≤ q → A0 q) (isC isR : List Nat) (hC : isC.map (fun i => w[i]?) = wc.map some) (hR : isR.map (fun i => w[i]?) = wr.map some) (hn : va_nd isR = true) (hdis : ∀ i ∈ isR, i ∉ isC) (pm : List Nat) (hpn : va_nd pm = true) (hpm : ∀ u, pm.map (fun i => (wr ++ w1 u)[i]?) = (w' u).map some)
    (kk : ∀ (q : Option Nat × S) (H1 : Heap) (locs1 : List Loc), F = q → K q → va_P D cl (w' q.2) H1 → va_D A0 (w' q.2) → va_S A0 H0 H1 locs1 → W p l e R s m args below meth c H1 locs1 (cells + mc) (slots + ms) Q (F0 m (pc + 3) ls (va_rf q.1 :: rest))) : W p l e R s m args below meth c H locs cells slots Q (F0 m pc ls st0) := by
  have hFc := va_free (wc := wc) hD hS hA isC hC
  refine va_callq hr hS (fun q _ h => hFc q h) hFc (fun r u t H1 locs1 ht hvm hw hB hz hk hS1 => ?_)
  obtain ⟨hP1, hK1, hD1⟩ := hB
  rw [ht] at hP1
  obtain ⟨hPj, hDj⟩ := va_join hP hD isC isR hC hR hn hdis hk hFc hP1 hD1
  exact kk (r, u) H1 locs1 hw.1.symm hw.2 (zPs hPj pm (hpm u)) (hDj.sub pm hpn (hpm u)) hS1
theorem kN_pq {F : Option Nat} {K : Option Nat → Prop} {wc wr w : va_W} (hr : va_Run p l e R s m args below meth c H locs cells slots mc ms (F0 m pc ls st0) rest (va_Qq (fun r (_ : Unit) => r = F ∧ K r) (fun _ => zB D cl tys (va_A wc H.size) wc) (va_A wc H.size) a) (va_A wc H.size)) (hP : va_P D cl w H) (hD : va_D A0 w) (hS : va_S A0 H0 H locs) (hA : ∀ q, H0.size ≤ q → A0 q) (isC isR : List Nat) (hC : isC.map (fun i => w[i]?) = wc.map some) (hR : isR.map (fun i => w[i]?) = wr.map some) (hn : va_nd isR = true) (hdis : ∀ i ∈ isR, i ∉ isC) (pm : List Nat) (hpn : va_nd pm = true) (hpm : pm.map (fun i => (wr ++ wc)[i]?) = w.map some)
    (kk : ∀ (q : Option Nat) (H1 : Heap) (locs1 : List Loc), F = q → K q → va_P D cl w H1 → va_D A0 w → va_S A0 H0 H1 locs1 → W p l e R s m args below meth c H1 locs1 (cells + mc) (slots + ms) Q (F0 m (pc + 3) ls (va_rf q :: rest))) : W p l e R s m args below meth c H locs cells slots Q (F0 m pc ls st0) := by
  have hFc := va_free (wc := wc) hD hS hA isC hC
  refine va_callq hr hS (fun q _ h => hFc q h) hFc (fun r u t H1 locs1 ht hvm hw hB hz hk hS1 => ?_)
  obtain ⟨hP1, hK1, hD1⟩ := hB
  rw [ht] at hP1
  obtain ⟨hPj, hDj⟩ := va_join hP hD isC isR hC hR hn hdis hk hFc hP1 hD1
  exact kk r H1 locs1 hw.1.symm hw.2 (zPs hPj pm hpm) (hDj.sub pm hpn hpm) hS1
theorem kN_sv {S : Type} {F : S} {K : S → Prop} {wc wr w : va_W} {w1 : S → va_W} (w' : S → va_W) (hr : va_Run p l e R s m args below meth c H locs cells slots mc ms (F0 m pc ls st0) rest (va_Qv (fun u => u = F ∧ K u) (fun u => zB D cl tys (va_A wc H.size) (w1 u)) (va_A wc H.size) a) (va_A wc H.size)) (hP : va_P D cl w H) (hD : va_D A0 w) (hS : va_S A0 H0 H locs) (hA : ∀ q, H0.size ≤ q → A0 q) (isC isR : List Nat) (hC : isC.map (fun i => w[i]?) = wc.map some) (hR : isR.map (fun i => w[i]?) = wr.map some) (hn : va_nd isR = true) (hdis : ∀ i ∈ isR, i ∉ isC) (pm : List Nat) (hpn : va_nd pm = true) (hpm : ∀ u, pm.map (fun i => (wr ++ w1 u)[i]?) = (w' u).map some)
    (kk : ∀ (q : S) (H1 : Heap) (locs1 : List Loc), F = q → K q → va_P D cl (w' q) H1 → va_D A0 (w' q) → va_S A0 H0 H1 locs1 → W p l e R s m args below meth c H1 locs1 (cells + mc) (slots + ms) Q (F0 m (pc + 3) ls (rest))) : W p l e R s m args below meth c H locs cells slots Q (F0 m pc ls st0) := by
  have hFc := va_free (wc := wc) hD hS hA isC hC
  refine va_callv hr hS (fun q _ h => hFc q h) hFc (fun u t H1 locs1 ht hvm hw hB hz hk hS1 => ?_)
  obtain ⟨hP1, hK1, hD1⟩ := hB
  rw [ht] at hP1
  obtain ⟨hPj, hDj⟩ := va_join hP hD isC isR hC hR hn hdis hk hFc hP1 hD1
  exact kk u H1 locs1 hw.1.symm hw.2 (zPs hPj pm (hpm u)) (hDj.sub pm hpn (hpm u)) hS1
end KN
section KR
variable {p : Program} {l : Launch} {e : Env} {R : Room} {s : State} {m : MethodId} {args : Array Value} {below : List Frame} {meth : Method} {c : Code} {H : Heap} {locs : List Loc} {cells slots : Nat} {Q : State → Prop}
variable {D : va_G} {cl : List vw_C} {tys : List (ClassId × FieldType)} {pc : Nat} {ls : Array Slot} {rest st0 : List Value} {a : Array Value} {A0 : Nat → Prop} {H0 : Heap} {mc ms : Nat}
variable {y : MethodName} {bytes cc : ByteArray} {maxL nL n index : Nat} {ret : Option FieldType} {ws Ts : List Cond} {rm : Room} {Qc : Array Value → State → Outcome → State → Prop} {free : Addr → Prop} {own C host : String} {b : Addr} {As : List Value} {wc : va_W} {ci N : Nat} {fs : List Value} {T : u_T}
theorem zV (S : CallFix p m c cc nL s args Ts own) (hM : Met l y ws rm (va_Pc (.ref b :: As) (zP D cl tys wc H.size)) Qc mc ms free) (cw : CallW R s args own C index y bytes maxL ret ws rm mc ms n) (hK : va_K D cl tys s) (hP : va_P D cl wc H) (hD : va_D A0 wc) (k0 : Nat) (hq : wc[k0]? = some (b, .inr (ci, fs))) (hc : cl[ci]? = some (C, T, N)) (hn : As.length = n) (hsize : ls.size = nL) (hst : st0 = As.reverse ++ .ref b :: rest) (hW : (rest.map fun v => v.category).sum ≤ 8) (hdg : decode cc pc = .ok (.invokevirtual index, 3)) (hf : cells + mc ≤ R.cells ∧ slots + ms ≤ R.slots) : va_Run p l e R s m args below meth c H locs cells slots mc ms (F0 m pc ls st0) rest (Qc (Value.ref b :: As).toArray) free :=
  va_runV S hM cw ⟨zP_blind, va_recv hK hP hc hq, zP_pre hK hP hD⟩ rfl hn hsize hst (lv_room hW) hdg hf
theorem zVN (S : CallFix p m c cc nL s args Ts own) (hM : Met l y ws rm (va_Pc (.ref b :: As) (zP D cl tys wc H.size)) Qc mc ms free) (cw : va_CN R s args own index y host bytes maxL ret ws rm mc ms n ∧ (Cond.instanceMethod y).before args s = true ∧ (Cond.selects C y y).before args s = true) (hK : va_K D cl tys s) (hP : va_P D cl wc H) (hD : va_D A0 wc) (k0 : Nat) (hq : wc[k0]? = some (b, .inr (ci, fs))) (hc : cl[ci]? = some (C, T, N)) (hn : As.length = n) (hsize : ls.size = nL) (hst : st0 = As.reverse ++ .ref b :: rest) (hW : (rest.map fun v => v.category).sum ≤ 8) (hdg : decode cc pc = .ok (.invokevirtual index, 3)) (hf : cells + mc ≤ R.cells ∧ slots + ms ≤ R.slots) : va_Run p l e R s m args below meth c H locs cells slots mc ms (F0 m pc ls st0) rest (Qc (Value.ref b :: As).toArray) free :=
  va_runVN S hM cw ⟨zP_blind, va_recv hK hP hc hq, zP_pre hK hP hD⟩ rfl hn hsize hst (lv_room hW) hdg hf
theorem zS (S : CallFix p m c cc nL s args Ts own) (hM : Met l y ws rm (va_Pc As (zP D cl tys wc H.size)) Qc mc ms free) (cw : CallB R s args own index y bytes maxL ret ws rm mc ms n ∧ (Cond.static y).before args s = true) (hK : va_K D cl tys s) (hP : va_P D cl wc H) (hD : va_D A0 wc) (hn : As.length = n) (hsize : ls.size = nL) (hst : st0 = As.reverse ++ rest) (hW : (rest.map fun v => v.category).sum ≤ 8) (hdg : decode cc pc = .ok (.invokestatic index, 3)) (hf : cells + mc ≤ R.cells ∧ slots + ms ≤ R.slots) : va_Run p l e R s m args below meth c H locs cells slots mc ms (F0 m pc ls st0) rest (Qc As.toArray) free :=
  va_runS S hM cw ⟨zP_blind, zP_pre hK hP hD⟩ rfl hn hsize hst (lv_room hW) hdg hf
theorem zI (S : CallFix p m c cc nL s args Ts own) (hM : Met l y ws rm (va_Pc (.ref b :: As) (zP D cl tys wc H.size)) Qc mc ms free) (cw : CallB R s args own index y bytes maxL none ws rm mc ms n ∧ y.name = "<init>" ∧ (Cond.instanceMethod y).before args s = true) (hK : va_K D cl tys s) (hP : va_P D cl wc H) (hD : va_D A0 wc) (hn : As.length = n) (hsize : ls.size = nL) (hst : st0 = As.reverse ++ .ref b :: rest) (hW : (rest.map fun v => v.category).sum ≤ 8) (hdg : decode cc pc = .ok (.invokespecial index, 3)) (hf : cells + mc ≤ R.cells ∧ slots + ms ≤ R.slots) : va_Run p l e R s m args below meth c H locs cells slots mc ms (F0 m pc ls st0) rest (Qc (Value.ref b :: As).toArray) free :=
  va_runI S hM cw ⟨zP_blind, zP_pre hK hP hD⟩ rfl hn hsize hst (lv_room hW) hdg hf
end KR
end
section
theorem co_Cells_size : (Jvm.Cond.code ({ cls := "ColonMachine$Cells", name := "size", desc := "()I" } : Jvm.MethodName) prog_3_method_2_code (1 : Nat) (Option.some Jvm.ClassFile.FieldType.int)) ∈ TB := tbI2 _ (List.mem_of_getElem? (i := 12) rfl) rfl
theorem fl_Cells_7 : (Jvm.Cond.fieldLink "ColonMachine$Cells" (7 : Nat) "ColonMachine$Cells" "size" "I") ∈ TB := tbI1 _ (List.mem_of_getElem? (i := 46) rfl) rfl
theorem co_Cells_has : (Jvm.Cond.code ({ cls := "ColonMachine$Cells", name := "has", desc := "(I)Z" } : Jvm.MethodName) prog_3_method_3_code (2 : Nat) (Option.some Jvm.ClassFile.FieldType.boolean)) ∈ TB := tbI3 _ (List.mem_of_getElem? (i := 68) rfl) rfl
theorem co_Cells_hasRoomFor : (Jvm.Cond.code ({ cls := "ColonMachine$Cells", name := "hasRoomFor", desc := "(I)Z" } : Jvm.MethodName) prog_3_method_4_code (2 : Nat) (Option.some Jvm.ClassFile.FieldType.boolean)) ∈ TB := tbI4 _ (List.mem_of_getElem? (i := 206) rfl) rfl
theorem fl_Cells_13 : (Jvm.Cond.fieldLink "ColonMachine$Cells" (13 : Nat) "ColonMachine$Cells" "cells" "[I") ∈ TB := tbI1 _ (List.mem_of_getElem? (i := 45) rfl) rfl
theorem co_Cells_put : (Jvm.Cond.code ({ cls := "ColonMachine$Cells", name := "put", desc := "(I)V" } : Jvm.MethodName) prog_3_method_5_code (2 : Nat) (Option.none : Option Jvm.ClassFile.FieldType)) ∈ TB := tbI4 _ (List.mem_of_getElem? (i := 231) rfl) rfl
theorem co_Cells_take : (Jvm.Cond.code ({ cls := "ColonMachine$Cells", name := "take", desc := "()I" } : Jvm.MethodName) prog_3_method_6_code (1 : Nat) (Option.some Jvm.ClassFile.FieldType.int)) ∈ TB := tbI5 _ (List.mem_of_getElem? (i := 7) rfl) rfl
theorem co_Cells_drop : (Jvm.Cond.code ({ cls := "ColonMachine$Cells", name := "drop", desc := "(I)V" } : Jvm.MethodName) prog_3_method_7_code (2 : Nat) (Option.none : Option Jvm.ClassFile.FieldType)) ∈ TB := tbI5 _ (List.mem_of_getElem? (i := 3) rfl) rfl
theorem co_Cells_at : (Jvm.Cond.code ({ cls := "ColonMachine$Cells", name := "at", desc := "(I)I" } : Jvm.MethodName) prog_3_method_8_code (2 : Nat) (Option.some Jvm.ClassFile.FieldType.int)) ∈ TB := tbI4 _ (List.mem_of_getElem? (i := 214) rfl) rfl
theorem co_Cells_set : (Jvm.Cond.code ({ cls := "ColonMachine$Cells", name := "set", desc := "(II)V" } : Jvm.MethodName) prog_3_method_9_code (3 : Nat) (Option.none : Option Jvm.ClassFile.FieldType)) ∈ TB := tbI5 _ (List.mem_of_getElem? (i := 128) rfl) rfl
abbrev b_Cells_size : ByteArray := prog_3_method_2_code
def y_Cells_size : MethodName := { cls := "ColonMachine$Cells", name := "size", desc := "()I" }
abbrev w_Cells_size : List Cond := .code y_Cells_size b_Cells_size 1 (Option.some Jvm.ClassFile.FieldType.int) :: TB
abbrev b_Cells_has : ByteArray := prog_3_method_3_code
def y_Cells_has : MethodName := { cls := "ColonMachine$Cells", name := "has", desc := "(I)Z" }
abbrev w_Cells_has : List Cond := .code y_Cells_has b_Cells_has 2 (Option.some Jvm.ClassFile.FieldType.boolean) :: TB
abbrev b_Cells_hasRoomFor : ByteArray := prog_3_method_4_code
def y_Cells_hasRoomFor : MethodName := { cls := "ColonMachine$Cells", name := "hasRoomFor", desc := "(I)Z" }
abbrev w_Cells_hasRoomFor : List Cond := .code y_Cells_hasRoomFor b_Cells_hasRoomFor 2 (Option.some Jvm.ClassFile.FieldType.boolean) :: TB
abbrev b_Cells_put : ByteArray := prog_3_method_5_code
def y_Cells_put : MethodName := { cls := "ColonMachine$Cells", name := "put", desc := "(I)V" }
abbrev w_Cells_put : List Cond := .code y_Cells_put b_Cells_put 2 (Option.none : Option Jvm.ClassFile.FieldType) :: TB
abbrev b_Cells_take : ByteArray := prog_3_method_6_code
def y_Cells_take : MethodName := { cls := "ColonMachine$Cells", name := "take", desc := "()I" }
abbrev w_Cells_take : List Cond := .code y_Cells_take b_Cells_take 1 (Option.some Jvm.ClassFile.FieldType.int) :: TB
abbrev b_Cells_drop : ByteArray := prog_3_method_7_code
def y_Cells_drop : MethodName := { cls := "ColonMachine$Cells", name := "drop", desc := "(I)V" }
abbrev w_Cells_drop : List Cond := .code y_Cells_drop b_Cells_drop 2 (Option.none : Option Jvm.ClassFile.FieldType) :: TB
abbrev b_Cells_at : ByteArray := prog_3_method_8_code
def y_Cells_at : MethodName := { cls := "ColonMachine$Cells", name := "at", desc := "(I)I" }
abbrev w_Cells_at : List Cond := .code y_Cells_at b_Cells_at 2 (Option.some Jvm.ClassFile.FieldType.int) :: TB
abbrev b_Cells_set : ByteArray := prog_3_method_9_code
def y_Cells_set : MethodName := { cls := "ColonMachine$Cells", name := "set", desc := "(II)V" }
abbrev w_Cells_set : List Cond := .code y_Cells_set b_Cells_set 3 (Option.none : Option Jvm.ClassFile.FieldType) :: TB
theorem d_Cells_size_0 : decode b_Cells_size 0 = .ok (.aload_n 0, 1) := by decide +kernel
theorem d_Cells_size_1 : decode b_Cells_size 1 = .ok (.getfield 7, 3) := by decide +kernel
theorem d_Cells_size_4 : decode b_Cells_size 4 = .ok (.ireturn, 1) := by decide +kernel
theorem d_Cells_has_0 : decode b_Cells_has 0 = .ok (.aload_n 0, 1) := by decide +kernel
theorem d_Cells_has_1 : decode b_Cells_has 1 = .ok (.getfield 7, 3) := by decide +kernel
theorem d_Cells_has_4 : decode b_Cells_has 4 = .ok (.iload_n 1, 1) := by decide +kernel
theorem d_Cells_has_5 : decode b_Cells_has 5 = .ok (.if_icmp .lt 7, 3) := by decide +kernel
theorem d_Cells_has_12 : decode b_Cells_has 12 = .ok (.iconst 0, 1) := by decide +kernel
theorem d_Cells_has_13 : decode b_Cells_has 13 = .ok (.ireturn, 1) := by decide +kernel
theorem d_Cells_has_8 : decode b_Cells_has 8 = .ok (.iconst 1, 1) := by decide +kernel
theorem d_Cells_has_9 : decode b_Cells_has 9 = .ok (.goto 4, 3) := by decide +kernel
theorem d_Cells_hasRoomFor_0 : decode b_Cells_hasRoomFor 0 = .ok (.iload_n 1, 1) := by decide +kernel
theorem d_Cells_hasRoomFor_1 : decode b_Cells_hasRoomFor 1 = .ok (.aload_n 0, 1) := by decide +kernel
theorem d_Cells_hasRoomFor_2 : decode b_Cells_hasRoomFor 2 = .ok (.getfield 13, 3) := by decide +kernel
theorem d_Cells_hasRoomFor_5 : decode b_Cells_hasRoomFor 5 = .ok (.arraylength, 1) := by decide +kernel
theorem d_Cells_hasRoomFor_6 : decode b_Cells_hasRoomFor 6 = .ok (.aload_n 0, 1) := by decide +kernel
theorem d_Cells_hasRoomFor_7 : decode b_Cells_hasRoomFor 7 = .ok (.getfield 7, 3) := by decide +kernel
theorem d_Cells_hasRoomFor_10 : decode b_Cells_hasRoomFor 10 = .ok (.isub, 1) := by decide +kernel
theorem d_Cells_hasRoomFor_11 : decode b_Cells_hasRoomFor 11 = .ok (.if_icmp .gt 7, 3) := by decide +kernel
theorem d_Cells_hasRoomFor_18 : decode b_Cells_hasRoomFor 18 = .ok (.iconst 0, 1) := by decide +kernel
theorem d_Cells_hasRoomFor_19 : decode b_Cells_hasRoomFor 19 = .ok (.ireturn, 1) := by decide +kernel
theorem d_Cells_hasRoomFor_14 : decode b_Cells_hasRoomFor 14 = .ok (.iconst 1, 1) := by decide +kernel
theorem d_Cells_hasRoomFor_15 : decode b_Cells_hasRoomFor 15 = .ok (.goto 4, 3) := by decide +kernel
theorem d_Cells_put_0 : decode b_Cells_put 0 = .ok (.aload_n 0, 1) := by decide +kernel
theorem d_Cells_put_1 : decode b_Cells_put 1 = .ok (.getfield 7, 3) := by decide +kernel
theorem d_Cells_put_4 : decode b_Cells_put 4 = .ok (.aload_n 0, 1) := by decide +kernel
theorem d_Cells_put_5 : decode b_Cells_put 5 = .ok (.getfield 13, 3) := by decide +kernel
theorem d_Cells_put_8 : decode b_Cells_put 8 = .ok (.arraylength, 1) := by decide +kernel
theorem d_Cells_put_9 : decode b_Cells_put 9 = .ok (.if_icmp .ge 23, 3) := by decide +kernel
theorem d_Cells_put_32 : decode b_Cells_put 32 = .ok (.return_, 1) := by decide +kernel
theorem d_Cells_put_12 : decode b_Cells_put 12 = .ok (.aload_n 0, 1) := by decide +kernel
theorem d_Cells_put_13 : decode b_Cells_put 13 = .ok (.getfield 13, 3) := by decide +kernel
theorem d_Cells_put_16 : decode b_Cells_put 16 = .ok (.aload_n 0, 1) := by decide +kernel
theorem d_Cells_put_17 : decode b_Cells_put 17 = .ok (.getfield 7, 3) := by decide +kernel
theorem d_Cells_put_20 : decode b_Cells_put 20 = .ok (.iload_n 1, 1) := by decide +kernel
theorem d_Cells_put_21 : decode b_Cells_put 21 = .ok (.iastore, 1) := by decide +kernel
theorem d_Cells_put_22 : decode b_Cells_put 22 = .ok (.aload_n 0, 1) := by decide +kernel
theorem d_Cells_put_23 : decode b_Cells_put 23 = .ok (.dup, 1) := by decide +kernel
theorem d_Cells_put_24 : decode b_Cells_put 24 = .ok (.getfield 7, 3) := by decide +kernel
theorem d_Cells_put_27 : decode b_Cells_put 27 = .ok (.iconst 1, 1) := by decide +kernel
theorem d_Cells_put_28 : decode b_Cells_put 28 = .ok (.iadd, 1) := by decide +kernel
theorem d_Cells_put_29 : decode b_Cells_put 29 = .ok (.putfield 7, 3) := by decide +kernel
theorem d_Cells_take_0 : decode b_Cells_take 0 = .ok (.aload_n 0, 1) := by decide +kernel
theorem d_Cells_take_1 : decode b_Cells_take 1 = .ok (.getfield 7, 3) := by decide +kernel
theorem d_Cells_take_4 : decode b_Cells_take 4 = .ok (.iconst 1, 1) := by decide +kernel
theorem d_Cells_take_5 : decode b_Cells_take 5 = .ok (.if_icmp .ge 5, 3) := by decide +kernel
theorem d_Cells_take_10 : decode b_Cells_take 10 = .ok (.aload_n 0, 1) := by decide +kernel
theorem d_Cells_take_11 : decode b_Cells_take 11 = .ok (.dup, 1) := by decide +kernel
theorem d_Cells_take_12 : decode b_Cells_take 12 = .ok (.getfield 7, 3) := by decide +kernel
theorem d_Cells_take_15 : decode b_Cells_take 15 = .ok (.iconst 1, 1) := by decide +kernel
theorem d_Cells_take_16 : decode b_Cells_take 16 = .ok (.isub, 1) := by decide +kernel
theorem d_Cells_take_17 : decode b_Cells_take 17 = .ok (.putfield 7, 3) := by decide +kernel
theorem d_Cells_take_20 : decode b_Cells_take 20 = .ok (.aload_n 0, 1) := by decide +kernel
theorem d_Cells_take_21 : decode b_Cells_take 21 = .ok (.getfield 13, 3) := by decide +kernel
theorem d_Cells_take_24 : decode b_Cells_take 24 = .ok (.aload_n 0, 1) := by decide +kernel
theorem d_Cells_take_25 : decode b_Cells_take 25 = .ok (.getfield 7, 3) := by decide +kernel
theorem d_Cells_take_28 : decode b_Cells_take 28 = .ok (.iaload, 1) := by decide +kernel
theorem d_Cells_take_29 : decode b_Cells_take 29 = .ok (.ireturn, 1) := by decide +kernel
theorem d_Cells_take_8 : decode b_Cells_take 8 = .ok (.iconst 0, 1) := by decide +kernel
theorem d_Cells_take_9 : decode b_Cells_take 9 = .ok (.ireturn, 1) := by decide +kernel
theorem d_Cells_drop_0 : decode b_Cells_drop 0 = .ok (.aload_n 0, 1) := by decide +kernel
theorem d_Cells_drop_1 : decode b_Cells_drop 1 = .ok (.iload_n 1, 1) := by decide +kernel
theorem d_Cells_drop_2 : decode b_Cells_drop 2 = .ok (.aload_n 0, 1) := by decide +kernel
theorem d_Cells_drop_3 : decode b_Cells_drop 3 = .ok (.getfield 7, 3) := by decide +kernel
theorem d_Cells_drop_6 : decode b_Cells_drop 6 = .ok (.if_icmp .ge 12, 3) := by decide +kernel
theorem d_Cells_drop_18 : decode b_Cells_drop 18 = .ok (.iconst 0, 1) := by decide +kernel
theorem d_Cells_drop_19 : decode b_Cells_drop 19 = .ok (.putfield 7, 3) := by decide +kernel
theorem d_Cells_drop_22 : decode b_Cells_drop 22 = .ok (.return_, 1) := by decide +kernel
theorem d_Cells_drop_9 : decode b_Cells_drop 9 = .ok (.aload_n 0, 1) := by decide +kernel
theorem d_Cells_drop_10 : decode b_Cells_drop 10 = .ok (.getfield 7, 3) := by decide +kernel
theorem d_Cells_drop_13 : decode b_Cells_drop 13 = .ok (.iload_n 1, 1) := by decide +kernel
theorem d_Cells_drop_14 : decode b_Cells_drop 14 = .ok (.isub, 1) := by decide +kernel
theorem d_Cells_drop_15 : decode b_Cells_drop 15 = .ok (.goto 4, 3) := by decide +kernel
theorem d_Cells_at_0 : decode b_Cells_at 0 = .ok (.iload_n 1, 1) := by decide +kernel
theorem d_Cells_at_1 : decode b_Cells_at 1 = .ok (.ifCond .lt 27, 3) := by decide +kernel
theorem d_Cells_at_28 : decode b_Cells_at 28 = .ok (.iconst 0, 1) := by decide +kernel
theorem d_Cells_at_29 : decode b_Cells_at 29 = .ok (.ireturn, 1) := by decide +kernel
theorem d_Cells_at_4 : decode b_Cells_at 4 = .ok (.iload_n 1, 1) := by decide +kernel
theorem d_Cells_at_5 : decode b_Cells_at 5 = .ok (.aload_n 0, 1) := by decide +kernel
theorem d_Cells_at_6 : decode b_Cells_at 6 = .ok (.getfield 7, 3) := by decide +kernel
theorem d_Cells_at_9 : decode b_Cells_at 9 = .ok (.if_icmp .ge 19, 3) := by decide +kernel
theorem d_Cells_at_12 : decode b_Cells_at 12 = .ok (.aload_n 0, 1) := by decide +kernel
theorem d_Cells_at_13 : decode b_Cells_at 13 = .ok (.getfield 13, 3) := by decide +kernel
theorem d_Cells_at_16 : decode b_Cells_at 16 = .ok (.aload_n 0, 1) := by decide +kernel
theorem d_Cells_at_17 : decode b_Cells_at 17 = .ok (.getfield 7, 3) := by decide +kernel
theorem d_Cells_at_20 : decode b_Cells_at 20 = .ok (.iconst 1, 1) := by decide +kernel
theorem d_Cells_at_21 : decode b_Cells_at 21 = .ok (.isub, 1) := by decide +kernel
theorem d_Cells_at_22 : decode b_Cells_at 22 = .ok (.iload_n 1, 1) := by decide +kernel
theorem d_Cells_at_23 : decode b_Cells_at 23 = .ok (.isub, 1) := by decide +kernel
theorem d_Cells_at_24 : decode b_Cells_at 24 = .ok (.iaload, 1) := by decide +kernel
theorem d_Cells_at_25 : decode b_Cells_at 25 = .ok (.goto 4, 3) := by decide +kernel
theorem d_Cells_set_0 : decode b_Cells_set 0 = .ok (.iload_n 1, 1) := by decide +kernel
theorem d_Cells_set_1 : decode b_Cells_set 1 = .ok (.ifCond .lt 25, 3) := by decide +kernel
theorem d_Cells_set_26 : decode b_Cells_set 26 = .ok (.return_, 1) := by decide +kernel
theorem d_Cells_set_4 : decode b_Cells_set 4 = .ok (.iload_n 1, 1) := by decide +kernel
theorem d_Cells_set_5 : decode b_Cells_set 5 = .ok (.aload_n 0, 1) := by decide +kernel
theorem d_Cells_set_6 : decode b_Cells_set 6 = .ok (.getfield 7, 3) := by decide +kernel
theorem d_Cells_set_9 : decode b_Cells_set 9 = .ok (.if_icmp .ge 17, 3) := by decide +kernel
theorem d_Cells_set_12 : decode b_Cells_set 12 = .ok (.aload_n 0, 1) := by decide +kernel
theorem d_Cells_set_13 : decode b_Cells_set 13 = .ok (.getfield 13, 3) := by decide +kernel
theorem d_Cells_set_16 : decode b_Cells_set 16 = .ok (.aload_n 0, 1) := by decide +kernel
theorem d_Cells_set_17 : decode b_Cells_set 17 = .ok (.getfield 7, 3) := by decide +kernel
theorem d_Cells_set_20 : decode b_Cells_set 20 = .ok (.iconst 1, 1) := by decide +kernel
theorem d_Cells_set_21 : decode b_Cells_set 21 = .ok (.isub, 1) := by decide +kernel
theorem d_Cells_set_22 : decode b_Cells_set 22 = .ok (.iload_n 1, 1) := by decide +kernel
theorem d_Cells_set_23 : decode b_Cells_set 23 = .ok (.isub, 1) := by decide +kernel
theorem d_Cells_set_24 : decode b_Cells_set 24 = .ok (.iload_n 2, 1) := by decide +kernel
theorem d_Cells_set_25 : decode b_Cells_set 25 = .ok (.iastore, 1) := by decide +kernel
/-- the picture of ColonMachine$Cells.size -/
def F_Cells_size (n : Int32) : Int32 := n
theorem F_Cells_size_e (n : Int32) : F_Cells_size n = n := rfl
set_option maxHeartbeats 4000000 in
set_option maxRecDepth 100000 in
theorem c_Cells_size (l : Launch) (D : va_G) (cI : ClassId) (sz : Nat) (h : Nat) (a : Nat) (N : Nat) (n : Int32) (hi : CellsOk N n) : Met l y_Cells_size w_Cells_size ({ frames := 0, cells := 0, slots := 0, locals := 0 }) (va_Pc [.ref h] (zP D classes (TY cI) [(h, .inr (1, [.ref a, .int n]))] sz)) (va_Qi (fun (r : Int32) (_ : Unit) => r = F_Cells_size n ∧ (True)) (fun _ => zB D classes (TY cI) (va_A [(h, .inr (1, [.ref a, .int n]))] sz) [(h, .inr (1, [.ref a, .int n]))]) (va_A [(h, .inr (1, [.ref a, .int n]))] sz)) 0 0 (va_A [(h, .inr (1, [.ref a, .int n]))] sz) := by
  refine Met.ofW (cc := b_Cells_size) (maxL := 1) (ret := (some .int)) (by decide) rfl ?_
  intro p e s m args below meth c s₁ B hml hv
  obtain ⟨rfl, hsz, hP, hK, hD0⟩ := hv
  have hx := B.exec
  have hb := B.bytes
  have hr := B.returns
  have hts := atoms_spec (ws := w_Cells_size) B.pre
  have hT : ∀ w ∈ TB, w.before _ s = true := fun w h => hts w (List.mem_cons_of_mem _ h)
  have hown : s.vm.findClass "ColonMachine$Cells" = some m.cls := findClass_of_methodNamed B.named
  have hlocks := B.notSynchronized
  subst hsz
  have hD := hD0.self (sz := s.heap.size)
  generalize hAe : va_A [(h, .inr (1, [.ref a, .int n]))] s.heap.size = A at hD ⊢
  have hA : ∀ q : Nat, s.heap.size ≤ q → A q := fun q h => by rw [← hAe]; exact Or.inr h
  have hS : va_S A s.heap s.heap [] := va_S.rf
  have hl := lv_entry [.ref h] (n := 1) (Nat.le_of_ble_eq_true rfl)
  rw [lg_entry_eq]
  generalize (lg_sl [.ref h] ++ List.replicate (1 - (lg_sl [.ref h]).length) Slot.unset).toArray = ls at hl ⊢
  have hl : lv_has ls 1 [(0, .ref h)] := hl
  have hF := F_Cells_size_e n
  refine lv_aload_n hx hb d_Cells_size_0 rfl (lv_at hl 0 rfl) ?_
  refine va_get (D := D) (v := .int n) (C := "ColonMachine$Cells") (T := T_Cells) (N := 2) hx hb hT i_Cells hown hK hP 0 rfl rfl 1 (by decide) (hT _ fl_Cells_7) (fun _ h9 => h9) rfl d_Cells_size_1 ?_
  exact W.iret (v := n) hx hb hr (fun t ht hW => ⟨⟨_, (), rfl, ⟨hF.symm, trivial⟩, ⟨by rw [ht]; exact hP, va_K.moved hW.alike hK, hD⟩⟩, hS.F ht⟩) hS.2.2 d_Cells_size_4
/-- the picture of ColonMachine$Cells.has -/
def F_Cells_has (n : Int32) (x1 : Int32) : Int32 := if n < x1 then 0 else 1
theorem F_Cells_has_e (n : Int32) (x1 : Int32) : F_Cells_has n x1 = if n < x1 then 0 else 1 := rfl
set_option maxHeartbeats 4000000 in
set_option maxRecDepth 100000 in
theorem c_Cells_has (l : Launch) (D : va_G) (cI : ClassId) (sz : Nat) (h : Nat) (a : Nat) (N : Nat) (n : Int32) (x1 : Int32) (hi : CellsOk N n) : Met l y_Cells_has w_Cells_has ({ frames := 0, cells := 0, slots := 0, locals := 0 }) (va_Pc [.ref h, .int x1] (zP D classes (TY cI) [(h, .inr (1, [.ref a, .int n]))] sz)) (va_Qi (fun (r : Int32) (_ : Unit) => r = F_Cells_has n x1 ∧ ((r = 0 ∨ r = 1))) (fun _ => zB D classes (TY cI) (va_A [(h, .inr (1, [.ref a, .int n]))] sz) [(h, .inr (1, [.ref a, .int n]))]) (va_A [(h, .inr (1, [.ref a, .int n]))] sz)) 0 0 (va_A [(h, .inr (1, [.ref a, .int n]))] sz) := by
  refine Met.ofW (cc := b_Cells_has) (maxL := 2) (ret := (some .boolean)) (by decide) rfl ?_
  intro p e s m args below meth c s₁ B hml hv
  obtain ⟨rfl, hsz, hP, hK, hD0⟩ := hv
  have hx := B.exec
  have hb := B.bytes
  have hr := B.returns
  have hts := atoms_spec (ws := w_Cells_has) B.pre
  have hT : ∀ w ∈ TB, w.before _ s = true := fun w h => hts w (List.mem_cons_of_mem _ h)
  have hown : s.vm.findClass "ColonMachine$Cells" = some m.cls := findClass_of_methodNamed B.named
  have hlocks := B.notSynchronized
  subst hsz
  have hD := hD0.self (sz := s.heap.size)
  generalize hAe : va_A [(h, .inr (1, [.ref a, .int n]))] s.heap.size = A at hD ⊢
  have hA : ∀ q : Nat, s.heap.size ≤ q → A q := fun q h => by rw [← hAe]; exact Or.inr h
  have hS : va_S A s.heap s.heap [] := va_S.rf
  have hl := lv_entry [.ref h, .int x1] (n := 2) (Nat.le_of_ble_eq_true rfl)
  rw [lg_entry_eq]
  generalize (lg_sl [.ref h, .int x1] ++ List.replicate (2 - (lg_sl [.ref h, .int x1]).length) Slot.unset).toArray = ls at hl ⊢
  have hl : lv_has ls 2 [(0, .ref h), (1, .int x1)] := hl
  have hF := F_Cells_has_e n x1
  refine lv_aload_n hx hb d_Cells_has_0 rfl (lv_at hl 0 rfl) ?_
  refine va_get (D := D) (v := .int n) (C := "ColonMachine$Cells") (T := T_Cells) (N := 2) hx hb hT i_Cells hown hK hP 0 rfl rfl 1 (by decide) (hT _ fl_Cells_7) (fun _ h9 => h9) rfl d_Cells_has_1 ?_
  refine lv_iload_n hx hb d_Cells_has_4 rfl (lv_at hl 1 rfl) ?_
  refine lv_icmp_lt (tgt := 12) hx hb d_Cells_has_5 (by decide) (fun c1 => ?_) (fun c1 => ?_)
  · have hF := hF.trans (if_pos c1)
    refine lv_iconst (v := 0) hx hb d_Cells_has_12 (by decide) ?_
    exact W.zret (v := 0) hx hb hr rfl (fun t ht hW => ⟨⟨_, (), rfl, ⟨hF.symm, (Or.inl rfl)⟩, ⟨by rw [ht]; exact hP, va_K.moved hW.alike hK, hD⟩⟩, hS.F ht⟩) hS.2.2 d_Cells_has_13
  · have hF := hF.trans (if_neg c1)
    refine lv_iconst (v := 1) hx hb d_Cells_has_8 (by decide) ?_
    refine lv_goto (tgt := 13) hx hb d_Cells_has_9 (by decide) ?_
    exact W.zret (v := 1) hx hb hr rfl (fun t ht hW => ⟨⟨_, (), rfl, ⟨hF.symm, (Or.inr rfl)⟩, ⟨by rw [ht]; exact hP, va_K.moved hW.alike hK, hD⟩⟩, hS.F ht⟩) hS.2.2 d_Cells_has_13
/-- the picture of ColonMachine$Cells.hasRoomFor -/
def F_Cells_hasRoomFor (N : Nat) (n : Int32) (x1 : Int32) : Int32 := if ((nI N) - n) < x1 then 0 else 1
theorem F_Cells_hasRoomFor_e (N : Nat) (n : Int32) (x1 : Int32) : F_Cells_hasRoomFor N n x1 = if ((nI N) - n) < x1 then 0 else 1 := rfl
set_option maxHeartbeats 4000000 in
set_option maxRecDepth 100000 in
theorem c_Cells_hasRoomFor (l : Launch) (D : va_G) (cI : ClassId) (sz : Nat) (h : Nat) (a : Nat) (N : Nat) (n : Int32) (f : Nat → Int32) (x1 : Int32) (hi : CellsOk N n) : Met l y_Cells_hasRoomFor w_Cells_hasRoomFor ({ frames := 0, cells := 0, slots := 0, locals := 0 }) (va_Pc [.ref h, .int x1] (zP D classes (TY cI) [(h, .inr (1, [.ref a, .int n])), (a, .inl (cI, N, .inl f))] sz)) (va_Qi (fun (r : Int32) (_ : Unit) => r = F_Cells_hasRoomFor N n x1 ∧ ((r = 0 ∨ r = 1))) (fun _ => zB D classes (TY cI) (va_A [(h, .inr (1, [.ref a, .int n])), (a, .inl (cI, N, .inl f))] sz) [(h, .inr (1, [.ref a, .int n])), (a, .inl (cI, N, .inl f))]) (va_A [(h, .inr (1, [.ref a, .int n])), (a, .inl (cI, N, .inl f))] sz)) 0 0 (va_A [(h, .inr (1, [.ref a, .int n])), (a, .inl (cI, N, .inl f))] sz) := by
  refine Met.ofW (cc := b_Cells_hasRoomFor) (maxL := 2) (ret := (some .boolean)) (by decide) rfl ?_
  intro p e s m args below meth c s₁ B hml hv
  obtain ⟨rfl, hsz, hP, hK, hD0⟩ := hv
  have hx := B.exec
  have hb := B.bytes
  have hr := B.returns
  have hts := atoms_spec (ws := w_Cells_hasRoomFor) B.pre
  have hT : ∀ w ∈ TB, w.before _ s = true := fun w h => hts w (List.mem_cons_of_mem _ h)
  have hown : s.vm.findClass "ColonMachine$Cells" = some m.cls := findClass_of_methodNamed B.named
  have hlocks := B.notSynchronized
  subst hsz
  have hD := hD0.self (sz := s.heap.size)
  generalize hAe : va_A [(h, .inr (1, [.ref a, .int n])), (a, .inl (cI, N, .inl f))] s.heap.size = A at hD ⊢
  have hA : ∀ q : Nat, s.heap.size ≤ q → A q := fun q h => by rw [← hAe]; exact Or.inr h
  have hS : va_S A s.heap s.heap [] := va_S.rf
  have hl := lv_entry [.ref h, .int x1] (n := 2) (Nat.le_of_ble_eq_true rfl)
  rw [lg_entry_eq]
  generalize (lg_sl [.ref h, .int x1] ++ List.replicate (2 - (lg_sl [.ref h, .int x1]).length) Slot.unset).toArray = ls at hl ⊢
  have hl : lv_has ls 2 [(0, .ref h), (1, .int x1)] := hl
  have hF := F_Cells_hasRoomFor_e N n x1
  refine lv_iload_n hx hb d_Cells_hasRoomFor_0 rfl (lv_at hl 1 rfl) ?_
  refine lv_aload_n hx hb d_Cells_hasRoomFor_1 rfl (lv_at hl 0 rfl) ?_
  refine va_get (D := D) (v := .ref a) (C := "ColonMachine$Cells") (T := T_Cells) (N := 2) hx hb hT i_Cells hown hK hP 0 rfl rfl 0 (by decide) (hT _ fl_Cells_13) (fun _ h9 => h9) rfl d_Cells_hasRoomFor_2 ?_
  refine va_alen (v := nI N) hx hb hK hP 1 0 rfl rfl rfl d_Cells_hasRoomFor_5 ?_
  refine lv_aload_n hx hb d_Cells_hasRoomFor_6 rfl (lv_at hl 0 rfl) ?_
  refine va_get (D := D) (v := .int n) (C := "ColonMachine$Cells") (T := T_Cells) (N := 2) hx hb hT i_Cells hown hK hP 0 rfl rfl 1 (by decide) (hT _ fl_Cells_7) (fun _ h9 => h9) rfl d_Cells_hasRoomFor_7 ?_
  refine lv_isub hx hb d_Cells_hasRoomFor_10 ?_
  refine lv_icmp_gt (tgt := 18) hx hb d_Cells_hasRoomFor_11 (by decide) (fun c1 => ?_) (fun c1 => ?_)
  · have hF := hF.trans (if_pos c1)
    refine lv_iconst (v := 0) hx hb d_Cells_hasRoomFor_18 (by decide) ?_
    exact W.zret (v := 0) hx hb hr rfl (fun t ht hW => ⟨⟨_, (), rfl, ⟨hF.symm, (Or.inl rfl)⟩, ⟨by rw [ht]; exact hP, va_K.moved hW.alike hK, hD⟩⟩, hS.F ht⟩) hS.2.2 d_Cells_hasRoomFor_19
  · have hF := hF.trans (if_neg c1)
    refine lv_iconst (v := 1) hx hb d_Cells_hasRoomFor_14 (by decide) ?_
    refine lv_goto (tgt := 19) hx hb d_Cells_hasRoomFor_15 (by decide) ?_
    exact W.zret (v := 1) hx hb hr rfl (fun t ht hW => ⟨⟨_, (), rfl, ⟨hF.symm, (Or.inr rfl)⟩, ⟨by rw [ht]; exact hP, va_K.moved hW.alike hK, hD⟩⟩, hS.F ht⟩) hS.2.2 d_Cells_hasRoomFor_19
/-- the picture of ColonMachine$Cells.put -/
def F_Cells_put (N : Nat) (n : Int32) (f : Nat → Int32) (x1 : Int32) : Int32 × (Nat → Int32) := if (nI N) ≤ n then (n, f) else (n + 1, upd f n.toNatClampNeg x1)
theorem F_Cells_put_e (N : Nat) (n : Int32) (f : Nat → Int32) (x1 : Int32) : F_Cells_put N n f x1 = if (nI N) ≤ n then (n, f) else (n + 1, upd f n.toNatClampNeg x1) := rfl
set_option maxHeartbeats 4000000 in
set_option maxRecDepth 100000 in
theorem c_Cells_put (l : Launch) (D : va_G) (cI : ClassId) (sz : Nat) (h : Nat) (a : Nat) (N : Nat) (n : Int32) (f : Nat → Int32) (x1 : Int32) (hi : CellsOk N n) : Met l y_Cells_put w_Cells_put ({ frames := 0, cells := 0, slots := 0, locals := 0 }) (va_Pc [.ref h, .int x1] (zP D classes (TY cI) [(h, .inr (1, [.ref a, .int n])), (a, .inl (cI, N, .inl f))] sz)) (va_Qv (fun u : Int32 × (Nat → Int32) => u = F_Cells_put N n f x1 ∧ ((CellsOk N u.1))) (fun u => zB D classes (TY cI) (va_A [(h, .inr (1, [.ref a, .int n])), (a, .inl (cI, N, .inl f))] sz) [(h, .inr (1, [.ref a, .int u.1])), (a, .inl (cI, N, .inl u.2))]) (va_A [(h, .inr (1, [.ref a, .int n])), (a, .inl (cI, N, .inl f))] sz)) 0 0 (va_A [(h, .inr (1, [.ref a, .int n])), (a, .inl (cI, N, .inl f))] sz) := by
  refine Met.ofW (cc := b_Cells_put) (maxL := 2) (ret := none) (by decide) rfl ?_
  intro p e s m args below meth c s₁ B hml hv
  obtain ⟨rfl, hsz, hP, hK, hD0⟩ := hv
  have hx := B.exec
  have hb := B.bytes
  have hr := B.returns
  have hts := atoms_spec (ws := w_Cells_put) B.pre
  have hT : ∀ w ∈ TB, w.before _ s = true := fun w h => hts w (List.mem_cons_of_mem _ h)
  have hown : s.vm.findClass "ColonMachine$Cells" = some m.cls := findClass_of_methodNamed B.named
  have hlocks := B.notSynchronized
  subst hsz
  have hD := hD0.self (sz := s.heap.size)
  generalize hAe : va_A [(h, .inr (1, [.ref a, .int n])), (a, .inl (cI, N, .inl f))] s.heap.size = A at hD ⊢
  have hA : ∀ q : Nat, s.heap.size ≤ q → A q := fun q h => by rw [← hAe]; exact Or.inr h
  have hS : va_S A s.heap s.heap [] := va_S.rf
  have hl := lv_entry [.ref h, .int x1] (n := 2) (Nat.le_of_ble_eq_true rfl)
  rw [lg_entry_eq]
  generalize (lg_sl [.ref h, .int x1] ++ List.replicate (2 - (lg_sl [.ref h, .int x1]).length) Slot.unset).toArray = ls at hl ⊢
  have hl : lv_has ls 2 [(0, .ref h), (1, .int x1)] := hl
  have hF := F_Cells_put_e N n f x1
  refine lv_aload_n hx hb d_Cells_put_0 rfl (lv_at hl 0 rfl) ?_
  refine va_get (D := D) (v := .int n) (C := "ColonMachine$Cells") (T := T_Cells) (N := 2) hx hb hT i_Cells hown hK hP 0 rfl rfl 1 (by decide) (hT _ fl_Cells_7) (fun _ h9 => h9) rfl d_Cells_put_1 ?_
  refine lv_aload_n hx hb d_Cells_put_4 rfl (lv_at hl 0 rfl) ?_
  refine va_get (D := D) (v := .ref a) (C := "ColonMachine$Cells") (T := T_Cells) (N := 2) hx hb hT i_Cells hown hK hP 0 rfl rfl 0 (by decide) (hT _ fl_Cells_13) (fun _ h9 => h9) rfl d_Cells_put_5 ?_
  refine va_alen (v := nI N) hx hb hK hP 1 0 rfl rfl rfl d_Cells_put_8 ?_
  refine lv_icmp_ge (tgt := 32) hx hb d_Cells_put_9 (by decide) (fun c1 => ?_) (fun c1 => ?_)
  · have hF := hF.trans (if_pos c1)
    exact W.vret hx hb hr (fun t ht hW => ⟨⟨_, rfl, ⟨hF.symm, hi⟩, ⟨by rw [ht]; exact hP, va_K.moved hW.alike hK, hD⟩⟩, hS.F ht⟩) hS.2.2 d_Cells_put_32
  · have hF := hF.trans (if_neg c1)
    refine lv_aload_n hx hb d_Cells_put_12 rfl (lv_at hl 0 rfl) ?_
    refine va_get (D := D) (v := .ref a) (C := "ColonMachine$Cells") (T := T_Cells) (N := 2) hx hb hT i_Cells hown hK hP 0 rfl rfl 0 (by decide) (hT _ fl_Cells_13) (fun _ h9 => h9) rfl d_Cells_put_13 ?_
    refine lv_aload_n hx hb d_Cells_put_16 rfl (lv_at hl 0 rfl) ?_
    refine va_get (D := D) (v := .int n) (C := "ColonMachine$Cells") (T := T_Cells) (N := 2) hx hb hT i_Cells hown hK hP 0 rfl rfl 1 (by decide) (hT _ fl_Cells_7) (fun _ h9 => h9) rfl d_Cells_put_17 ?_
    refine lv_iload_n hx hb d_Cells_put_20 rfl (lv_at hl 1 rfl) ?_
    refine va_iast hx hb hK hP hD hS 1 0 rfl rfl (by have := ti_lo n; have := ti_hi n; have := co_nI hi; rw [vp_in_iff]; simp only [CellsOk, CallsOk, TextOk, MemOk, OutOk, Int32.lt_iff_toInt_lt, Int32.le_iff_toInt_le, ← Int32.toInt_inj, Int32.toInt_add, Int32.toInt_sub, Int32.toInt_mul, Int32.toInt_neg, zbm, zbm'] at c1 hi ⊢; omega) d_Cells_put_21 (fun H locs hP hD hS => ?_)
    have hP : va_P D classes [(h, .inr (1, [.ref a, .int n])), (a, .inl (cI, N, .inl (upd f n.toNatClampNeg x1)))] H := hP
    have hD : va_D A [(h, .inr (1, [.ref a, .int n])), (a, .inl (cI, N, .inl (upd f n.toNatClampNeg x1)))] := hD
    refine lv_aload_n hx hb d_Cells_put_22 rfl (lv_at hl 0 rfl) ?_
    refine lv_dup hx hb d_Cells_put_23 rfl ?_
    refine va_get (D := D) (v := .int n) (C := "ColonMachine$Cells") (T := T_Cells) (N := 2) hx hb hT i_Cells hown hK hP 0 rfl rfl 1 (by decide) (hT _ fl_Cells_7) (fun _ h9 => h9) rfl d_Cells_put_24 ?_
    refine lv_iconst (v := 1) hx hb d_Cells_put_27 (by decide) ?_
    refine lv_iadd hx hb d_Cells_put_28 ?_
    refine va_put (D := D) (v := .int (n + 1)) (ty := .int) (C := "ColonMachine$Cells") (T := T_Cells) (N := 2) hx hb hT i_Cells t_Cells tk_Cells n_Cells hown hK hP hD hS 0 rfl rfl 1 (by decide) (hT _ fl_Cells_7) (fun _ h9 => h9) rfl (by decide +kernel) rfl rfl (Nat.le_of_ble_eq_true rfl) d_Cells_put_29 (fun H locs hP hD hS => ?_)
    have hP : va_P D classes [(h, .inr (1, [.ref a, .int (n + 1)])), (a, .inl (cI, N, .inl (upd f n.toNatClampNeg x1)))] H := hP
    have hD : va_D A [(h, .inr (1, [.ref a, .int (n + 1)])), (a, .inl (cI, N, .inl (upd f n.toNatClampNeg x1)))] := hD
    exact W.vret hx hb hr (fun t ht hW => ⟨⟨_, rfl, ⟨hF.symm, (by have := ti_lo n; have := ti_hi n; have : Int32.toInt 1 = 1 := rfl; have := co_nI hi; simp only [CellsOk, CallsOk, TextOk, MemOk, OutOk, Int32.lt_iff_toInt_lt, Int32.le_iff_toInt_le, ← Int32.toInt_inj, Int32.toInt_add, Int32.toInt_sub, Int32.toInt_mul, Int32.toInt_neg, zbm, zbm'] at c1 hi ⊢; omega)⟩, ⟨by rw [ht]; exact hP, va_K.moved hW.alike hK, hD⟩⟩, hS.F ht⟩) hS.2.2 d_Cells_put_32
/-- the picture of ColonMachine$Cells.take -/
def F_Cells_take (n : Int32) (f : Nat → Int32) : Int32 × Int32 := if 1 ≤ n then (f (n - 1).toNatClampNeg, n - 1) else (0, n)
theorem F_Cells_take_e (n : Int32) (f : Nat → Int32) : F_Cells_take n f = if 1 ≤ n then (f (n - 1).toNatClampNeg, n - 1) else (0, n) := rfl
set_option maxHeartbeats 4000000 in
set_option maxRecDepth 100000 in
theorem c_Cells_take (l : Launch) (D : va_G) (cI : ClassId) (sz : Nat) (h : Nat) (a : Nat) (N : Nat) (n : Int32) (f : Nat → Int32) (hi : CellsOk N n) : Met l y_Cells_take w_Cells_take ({ frames := 0, cells := 0, slots := 0, locals := 0 }) (va_Pc [.ref h] (zP D classes (TY cI) [(h, .inr (1, [.ref a, .int n])), (a, .inl (cI, N, .inl f))] sz)) (va_Qi (fun (r : Int32) (u : Int32) => (r, u) = F_Cells_take n f ∧ ((CellsOk N u))) (fun u => zB D classes (TY cI) (va_A [(h, .inr (1, [.ref a, .int n])), (a, .inl (cI, N, .inl f))] sz) [(h, .inr (1, [.ref a, .int u])), (a, .inl (cI, N, .inl f))]) (va_A [(h, .inr (1, [.ref a, .int n])), (a, .inl (cI, N, .inl f))] sz)) 0 0 (va_A [(h, .inr (1, [.ref a, .int n])), (a, .inl (cI, N, .inl f))] sz) := by
  refine Met.ofW (cc := b_Cells_take) (maxL := 1) (ret := (some .int)) (by decide) rfl ?_
  intro p e s m args below meth c s₁ B hml hv
  obtain ⟨rfl, hsz, hP, hK, hD0⟩ := hv
  have hx := B.exec
  have hb := B.bytes
  have hr := B.returns
  have hts := atoms_spec (ws := w_Cells_take) B.pre
  have hT : ∀ w ∈ TB, w.before _ s = true := fun w h => hts w (List.mem_cons_of_mem _ h)
  have hown : s.vm.findClass "ColonMachine$Cells" = some m.cls := findClass_of_methodNamed B.named
  have hlocks := B.notSynchronized
  subst hsz
  have hD := hD0.self (sz := s.heap.size)
  generalize hAe : va_A [(h, .inr (1, [.ref a, .int n])), (a, .inl (cI, N, .inl f))] s.heap.size = A at hD ⊢
  have hA : ∀ q : Nat, s.heap.size ≤ q → A q := fun q h => by rw [← hAe]; exact Or.inr h
  have hS : va_S A s.heap s.heap [] := va_S.rf
  have hl := lv_entry [.ref h] (n := 1) (Nat.le_of_ble_eq_true rfl)
  rw [lg_entry_eq]
  generalize (lg_sl [.ref h] ++ List.replicate (1 - (lg_sl [.ref h]).length) Slot.unset).toArray = ls at hl ⊢
  have hl : lv_has ls 1 [(0, .ref h)] := hl
  have hF := F_Cells_take_e n f
  refine lv_aload_n hx hb d_Cells_take_0 rfl (lv_at hl 0 rfl) ?_
  refine va_get (D := D) (v := .int n) (C := "ColonMachine$Cells") (T := T_Cells) (N := 2) hx hb hT i_Cells hown hK hP 0 rfl rfl 1 (by decide) (hT _ fl_Cells_7) (fun _ h9 => h9) rfl d_Cells_take_1 ?_
  refine lv_iconst (v := 1) hx hb d_Cells_take_4 (by decide) ?_
  refine lv_icmp_ge (tgt := 10) hx hb d_Cells_take_5 (by decide) (fun c1 => ?_) (fun c1 => ?_)
  · have hF := hF.trans (if_pos c1)
    refine lv_aload_n hx hb d_Cells_take_10 rfl (lv_at hl 0 rfl) ?_
    refine lv_dup hx hb d_Cells_take_11 rfl ?_
    refine va_get (D := D) (v := .int n) (C := "ColonMachine$Cells") (T := T_Cells) (N := 2) hx hb hT i_Cells hown hK hP 0 rfl rfl 1 (by decide) (hT _ fl_Cells_7) (fun _ h9 => h9) rfl d_Cells_take_12 ?_
    refine lv_iconst (v := 1) hx hb d_Cells_take_15 (by decide) ?_
    refine lv_isub hx hb d_Cells_take_16 ?_
    refine va_put (D := D) (v := .int (n - 1)) (ty := .int) (C := "ColonMachine$Cells") (T := T_Cells) (N := 2) hx hb hT i_Cells t_Cells tk_Cells n_Cells hown hK hP hD hS 0 rfl rfl 1 (by decide) (hT _ fl_Cells_7) (fun _ h9 => h9) rfl (by decide +kernel) rfl rfl (Nat.le_of_ble_eq_true rfl) d_Cells_take_17 (fun H locs hP hD hS => ?_)
    have hP : va_P D classes [(h, .inr (1, [.ref a, .int (n - 1)])), (a, .inl (cI, N, .inl f))] H := hP
    have hD : va_D A [(h, .inr (1, [.ref a, .int (n - 1)])), (a, .inl (cI, N, .inl f))] := hD
    refine lv_aload_n hx hb d_Cells_take_20 rfl (lv_at hl 0 rfl) ?_
    refine va_get (D := D) (v := .ref a) (C := "ColonMachine$Cells") (T := T_Cells) (N := 2) hx hb hT i_Cells hown hK hP 0 rfl rfl 0 (by decide) (hT _ fl_Cells_13) (fun _ h9 => h9) rfl d_Cells_take_21 ?_
    refine lv_aload_n hx hb d_Cells_take_24 rfl (lv_at hl 0 rfl) ?_
    refine va_get (D := D) (v := .int (n - 1)) (C := "ColonMachine$Cells") (T := T_Cells) (N := 2) hx hb hT i_Cells hown hK hP 0 rfl rfl 1 (by decide) (hT _ fl_Cells_7) (fun _ h9 => h9) rfl d_Cells_take_25 ?_
    refine va_iald hx hb hK hP 1 0 rfl rfl (by have := ti_lo n; have := ti_hi n; have : Int32.toInt 1 = 1 := rfl; rw [vp_in_iff]; simp only [CellsOk, CallsOk, TextOk, MemOk, OutOk, Int32.lt_iff_toInt_lt, Int32.le_iff_toInt_le, ← Int32.toInt_inj, Int32.toInt_add, Int32.toInt_sub, Int32.toInt_mul, Int32.toInt_neg, zbm, zbm'] at c1 hi ⊢; omega) d_Cells_take_28 ?_
    exact W.iret (v := f (n - 1).toNatClampNeg) hx hb hr (fun t ht hW => ⟨⟨_, _, rfl, ⟨hF.symm, (by have := ti_lo n; have := ti_hi n; have : Int32.toInt 1 = 1 := rfl; simp only [CellsOk, CallsOk, TextOk, MemOk, OutOk, Int32.lt_iff_toInt_lt, Int32.le_iff_toInt_le, ← Int32.toInt_inj, Int32.toInt_add, Int32.toInt_sub, Int32.toInt_mul, Int32.toInt_neg, zbm, zbm'] at c1 hi ⊢; omega)⟩, ⟨by rw [ht]; exact hP, va_K.moved hW.alike hK, hD⟩⟩, hS.F ht⟩) hS.2.2 d_Cells_take_29
  · have hF := hF.trans (if_neg c1)
    refine lv_iconst (v := 0) hx hb d_Cells_take_8 (by decide) ?_
    exact W.iret (v := 0) hx hb hr (fun t ht hW => ⟨⟨_, _, rfl, ⟨hF.symm, hi⟩, ⟨by rw [ht]; exact hP, va_K.moved hW.alike hK, hD⟩⟩, hS.F ht⟩) hS.2.2 d_Cells_take_9
/-- the picture of ColonMachine$Cells.drop -/
def F_Cells_drop (n : Int32) (x1 : Int32) : Int32 := if n ≤ x1 then 0 else (n - x1)
theorem F_Cells_drop_e (n : Int32) (x1 : Int32) : F_Cells_drop n x1 = if n ≤ x1 then 0 else (n - x1) := rfl
set_option maxHeartbeats 4000000 in
set_option maxRecDepth 100000 in
theorem c_Cells_drop (l : Launch) (D : va_G) (cI : ClassId) (sz : Nat) (h : Nat) (a : Nat) (N : Nat) (n : Int32) (x1 : Int32) (hi : CellsOk N n) (hp : 0 ≤ x1.toInt) : Met l y_Cells_drop w_Cells_drop ({ frames := 0, cells := 0, slots := 0, locals := 0 }) (va_Pc [.ref h, .int x1] (zP D classes (TY cI) [(h, .inr (1, [.ref a, .int n]))] sz)) (va_Qv (fun u : Int32 => u = F_Cells_drop n x1 ∧ ((CellsOk N u))) (fun u => zB D classes (TY cI) (va_A [(h, .inr (1, [.ref a, .int n]))] sz) [(h, .inr (1, [.ref a, .int u]))]) (va_A [(h, .inr (1, [.ref a, .int n]))] sz)) 0 0 (va_A [(h, .inr (1, [.ref a, .int n]))] sz) := by
  refine Met.ofW (cc := b_Cells_drop) (maxL := 2) (ret := none) (by decide) rfl ?_
  intro p e s m args below meth c s₁ B hml hv
  obtain ⟨rfl, hsz, hP, hK, hD0⟩ := hv
  have hx := B.exec
  have hb := B.bytes
  have hr := B.returns
  have hts := atoms_spec (ws := w_Cells_drop) B.pre
  have hT : ∀ w ∈ TB, w.before _ s = true := fun w h => hts w (List.mem_cons_of_mem _ h)
  have hown : s.vm.findClass "ColonMachine$Cells" = some m.cls := findClass_of_methodNamed B.named
  have hlocks := B.notSynchronized
  subst hsz
  have hD := hD0.self (sz := s.heap.size)
  generalize hAe : va_A [(h, .inr (1, [.ref a, .int n]))] s.heap.size = A at hD ⊢
  have hA : ∀ q : Nat, s.heap.size ≤ q → A q := fun q h => by rw [← hAe]; exact Or.inr h
  have hS : va_S A s.heap s.heap [] := va_S.rf
  have hl := lv_entry [.ref h, .int x1] (n := 2) (Nat.le_of_ble_eq_true rfl)
  rw [lg_entry_eq]
  generalize (lg_sl [.ref h, .int x1] ++ List.replicate (2 - (lg_sl [.ref h, .int x1]).length) Slot.unset).toArray = ls at hl ⊢
  have hl : lv_has ls 2 [(0, .ref h), (1, .int x1)] := hl
  have hF := F_Cells_drop_e n x1
  refine lv_aload_n hx hb d_Cells_drop_0 rfl (lv_at hl 0 rfl) ?_
  refine lv_iload_n hx hb d_Cells_drop_1 rfl (lv_at hl 1 rfl) ?_
  refine lv_aload_n hx hb d_Cells_drop_2 rfl (lv_at hl 0 rfl) ?_
  refine va_get (D := D) (v := .int n) (C := "ColonMachine$Cells") (T := T_Cells) (N := 2) hx hb hT i_Cells hown hK hP 0 rfl rfl 1 (by decide) (hT _ fl_Cells_7) (fun _ h9 => h9) rfl d_Cells_drop_3 ?_
  refine lv_icmp_ge (tgt := 18) hx hb d_Cells_drop_6 (by decide) (fun c1 => ?_) (fun c1 => ?_)
  · have hF := hF.trans (if_pos c1)
    refine lv_iconst (v := 0) hx hb d_Cells_drop_18 (by decide) ?_
    refine va_put (D := D) (v := .int 0) (ty := .int) (C := "ColonMachine$Cells") (T := T_Cells) (N := 2) hx hb hT i_Cells t_Cells tk_Cells n_Cells hown hK hP hD hS 0 rfl rfl 1 (by decide) (hT _ fl_Cells_7) (fun _ h9 => h9) rfl (by decide +kernel) rfl rfl (Nat.le_of_ble_eq_true rfl) d_Cells_drop_19 (fun H locs hP hD hS => ?_)
    have hP : va_P D classes [(h, .inr (1, [.ref a, .int 0]))] H := hP
    have hD : va_D A [(h, .inr (1, [.ref a, .int 0]))] := hD
    exact W.vret hx hb hr (fun t ht hW => ⟨⟨_, rfl, ⟨hF.symm, (by have := ti_lo n; have := ti_hi n; have := ti_lo x1; have := ti_hi x1; have : Int32.toInt 0 = 0 := rfl; simp only [CellsOk, CallsOk, TextOk, MemOk, OutOk, Int32.lt_iff_toInt_lt, Int32.le_iff_toInt_le, ← Int32.toInt_inj, Int32.toInt_add, Int32.toInt_sub, Int32.toInt_mul, Int32.toInt_neg, zbm, zbm'] at c1 hi hp ⊢; omega)⟩, ⟨by rw [ht]; exact hP, va_K.moved hW.alike hK, hD⟩⟩, hS.F ht⟩) hS.2.2 d_Cells_drop_22
  · have hF := hF.trans (if_neg c1)
    refine lv_aload_n hx hb d_Cells_drop_9 rfl (lv_at hl 0 rfl) ?_
    refine va_get (D := D) (v := .int n) (C := "ColonMachine$Cells") (T := T_Cells) (N := 2) hx hb hT i_Cells hown hK hP 0 rfl rfl 1 (by decide) (hT _ fl_Cells_7) (fun _ h9 => h9) rfl d_Cells_drop_10 ?_
    refine lv_iload_n hx hb d_Cells_drop_13 rfl (lv_at hl 1 rfl) ?_
    refine lv_isub hx hb d_Cells_drop_14 ?_
    refine lv_goto (tgt := 19) hx hb d_Cells_drop_15 (by decide) ?_
    refine va_put (D := D) (v := .int (n - x1)) (ty := .int) (C := "ColonMachine$Cells") (T := T_Cells) (N := 2) hx hb hT i_Cells t_Cells tk_Cells n_Cells hown hK hP hD hS 0 rfl rfl 1 (by decide) (hT _ fl_Cells_7) (fun _ h9 => h9) rfl (by decide +kernel) rfl rfl (Nat.le_of_ble_eq_true rfl) d_Cells_drop_19 (fun H locs hP hD hS => ?_)
    have hP : va_P D classes [(h, .inr (1, [.ref a, .int (n - x1)]))] H := hP
    have hD : va_D A [(h, .inr (1, [.ref a, .int (n - x1)]))] := hD
    exact W.vret hx hb hr (fun t ht hW => ⟨⟨_, rfl, ⟨hF.symm, (by have := ti_lo n; have := ti_hi n; have := ti_lo x1; have := ti_hi x1; have : Int32.toInt 0 = 0 := rfl; simp only [CellsOk, CallsOk, TextOk, MemOk, OutOk, Int32.lt_iff_toInt_lt, Int32.le_iff_toInt_le, ← Int32.toInt_inj, Int32.toInt_add, Int32.toInt_sub, Int32.toInt_mul, Int32.toInt_neg, zbm, zbm'] at c1 hi hp ⊢; omega)⟩, ⟨by rw [ht]; exact hP, va_K.moved hW.alike hK, hD⟩⟩, hS.F ht⟩) hS.2.2 d_Cells_drop_22
/-- the picture of ColonMachine$Cells.at -/
def F_Cells_at (n : Int32) (f : Nat → Int32) (x1 : Int32) : Int32 := if x1 < 0 then 0 else (if n ≤ x1 then 0 else (f ((n - 1) - x1).toNatClampNeg))
theorem F_Cells_at_e (n : Int32) (f : Nat → Int32) (x1 : Int32) : F_Cells_at n f x1 = if x1 < 0 then 0 else (if n ≤ x1 then 0 else (f ((n - 1) - x1).toNatClampNeg)) := rfl
set_option maxHeartbeats 4000000 in
set_option maxRecDepth 100000 in
theorem c_Cells_at (l : Launch) (D : va_G) (cI : ClassId) (sz : Nat) (h : Nat) (a : Nat) (N : Nat) (n : Int32) (f : Nat → Int32) (x1 : Int32) (hi : CellsOk N n) : Met l y_Cells_at w_Cells_at ({ frames := 0, cells := 0, slots := 0, locals := 0 }) (va_Pc [.ref h, .int x1] (zP D classes (TY cI) [(h, .inr (1, [.ref a, .int n])), (a, .inl (cI, N, .inl f))] sz)) (va_Qi (fun (r : Int32) (_ : Unit) => r = F_Cells_at n f x1 ∧ (True)) (fun _ => zB D classes (TY cI) (va_A [(h, .inr (1, [.ref a, .int n])), (a, .inl (cI, N, .inl f))] sz) [(h, .inr (1, [.ref a, .int n])), (a, .inl (cI, N, .inl f))]) (va_A [(h, .inr (1, [.ref a, .int n])), (a, .inl (cI, N, .inl f))] sz)) 0 0 (va_A [(h, .inr (1, [.ref a, .int n])), (a, .inl (cI, N, .inl f))] sz) := by
  refine Met.ofW (cc := b_Cells_at) (maxL := 2) (ret := (some .int)) (by decide) rfl ?_
  intro p e s m args below meth c s₁ B hml hv
  obtain ⟨rfl, hsz, hP, hK, hD0⟩ := hv
  have hx := B.exec
  have hb := B.bytes
  have hr := B.returns
  have hts := atoms_spec (ws := w_Cells_at) B.pre
  have hT : ∀ w ∈ TB, w.before _ s = true := fun w h => hts w (List.mem_cons_of_mem _ h)
  have hown : s.vm.findClass "ColonMachine$Cells" = some m.cls := findClass_of_methodNamed B.named
  have hlocks := B.notSynchronized
  subst hsz
  have hD := hD0.self (sz := s.heap.size)
  generalize hAe : va_A [(h, .inr (1, [.ref a, .int n])), (a, .inl (cI, N, .inl f))] s.heap.size = A at hD ⊢
  have hA : ∀ q : Nat, s.heap.size ≤ q → A q := fun q h => by rw [← hAe]; exact Or.inr h
  have hS : va_S A s.heap s.heap [] := va_S.rf
  have hl := lv_entry [.ref h, .int x1] (n := 2) (Nat.le_of_ble_eq_true rfl)
  rw [lg_entry_eq]
  generalize (lg_sl [.ref h, .int x1] ++ List.replicate (2 - (lg_sl [.ref h, .int x1]).length) Slot.unset).toArray = ls at hl ⊢
  have hl : lv_has ls 2 [(0, .ref h), (1, .int x1)] := hl
  have hF := F_Cells_at_e n f x1
  refine lv_iload_n hx hb d_Cells_at_0 rfl (lv_at hl 1 rfl) ?_
  refine lv_if_lt (tgt := 28) hx hb d_Cells_at_1 (by decide) (fun c1 => ?_) (fun c1 => ?_)
  · have hF := hF.trans (if_pos c1)
    refine lv_iconst (v := 0) hx hb d_Cells_at_28 (by decide) ?_
    exact W.iret (v := 0) hx hb hr (fun t ht hW => ⟨⟨_, (), rfl, ⟨hF.symm, trivial⟩, ⟨by rw [ht]; exact hP, va_K.moved hW.alike hK, hD⟩⟩, hS.F ht⟩) hS.2.2 d_Cells_at_29
  · have hF := hF.trans (if_neg c1)
    refine lv_iload_n hx hb d_Cells_at_4 rfl (lv_at hl 1 rfl) ?_
    refine lv_aload_n hx hb d_Cells_at_5 rfl (lv_at hl 0 rfl) ?_
    refine va_get (D := D) (v := .int n) (C := "ColonMachine$Cells") (T := T_Cells) (N := 2) hx hb hT i_Cells hown hK hP 0 rfl rfl 1 (by decide) (hT _ fl_Cells_7) (fun _ h9 => h9) rfl d_Cells_at_6 ?_
    refine lv_icmp_ge (tgt := 28) hx hb d_Cells_at_9 (by decide) (fun c2 => ?_) (fun c2 => ?_)
    · have hF := hF.trans (if_pos c2)
      refine lv_iconst (v := 0) hx hb d_Cells_at_28 (by decide) ?_
      exact W.iret (v := 0) hx hb hr (fun t ht hW => ⟨⟨_, (), rfl, ⟨hF.symm, trivial⟩, ⟨by rw [ht]; exact hP, va_K.moved hW.alike hK, hD⟩⟩, hS.F ht⟩) hS.2.2 d_Cells_at_29
    · have hF := hF.trans (if_neg c2)
      refine lv_aload_n hx hb d_Cells_at_12 rfl (lv_at hl 0 rfl) ?_
      refine va_get (D := D) (v := .ref a) (C := "ColonMachine$Cells") (T := T_Cells) (N := 2) hx hb hT i_Cells hown hK hP 0 rfl rfl 0 (by decide) (hT _ fl_Cells_13) (fun _ h9 => h9) rfl d_Cells_at_13 ?_
      refine lv_aload_n hx hb d_Cells_at_16 rfl (lv_at hl 0 rfl) ?_
      refine va_get (D := D) (v := .int n) (C := "ColonMachine$Cells") (T := T_Cells) (N := 2) hx hb hT i_Cells hown hK hP 0 rfl rfl 1 (by decide) (hT _ fl_Cells_7) (fun _ h9 => h9) rfl d_Cells_at_17 ?_
      refine lv_iconst (v := 1) hx hb d_Cells_at_20 (by decide) ?_
      refine lv_isub hx hb d_Cells_at_21 ?_
      refine lv_iload_n hx hb d_Cells_at_22 rfl (lv_at hl 1 rfl) ?_
      refine lv_isub hx hb d_Cells_at_23 ?_
      refine va_iald hx hb hK hP 1 0 rfl rfl (by have := ti_lo n; have := ti_hi n; have := ti_lo x1; have := ti_hi x1; have : Int32.toInt 1 = 1 := rfl; have : Int32.toInt 0 = 0 := rfl; rw [vp_in_iff]; simp only [CellsOk, CallsOk, TextOk, MemOk, OutOk, Int32.lt_iff_toInt_lt, Int32.le_iff_toInt_le, ← Int32.toInt_inj, Int32.toInt_add, Int32.toInt_sub, Int32.toInt_mul, Int32.toInt_neg, zbm, zbm'] at c1 c2 hi ⊢; omega) d_Cells_at_24 ?_
      refine lv_goto (tgt := 29) hx hb d_Cells_at_25 (by decide) ?_
      exact W.iret (v := f ((n - 1) - x1).toNatClampNeg) hx hb hr (fun t ht hW => ⟨⟨_, (), rfl, ⟨hF.symm, trivial⟩, ⟨by rw [ht]; exact hP, va_K.moved hW.alike hK, hD⟩⟩, hS.F ht⟩) hS.2.2 d_Cells_at_29
/-- the picture of ColonMachine$Cells.set -/
def F_Cells_set (n : Int32) (f : Nat → Int32) (x1 : Int32) (x2 : Int32) : (Nat → Int32) := if x1 < 0 then f else (if n ≤ x1 then f else (upd f ((n - 1) - x1).toNatClampNeg x2))
theorem F_Cells_set_e (n : Int32) (f : Nat → Int32) (x1 : Int32) (x2 : Int32) : F_Cells_set n f x1 x2 = if x1 < 0 then f else (if n ≤ x1 then f else (upd f ((n - 1) - x1).toNatClampNeg x2)) := rfl
set_option maxHeartbeats 4000000 in
set_option maxRecDepth 100000 in
theorem c_Cells_set (l : Launch) (D : va_G) (cI : ClassId) (sz : Nat) (h : Nat) (a : Nat) (N : Nat) (n : Int32) (f : Nat → Int32) (x1 : Int32) (x2 : Int32) (hi : CellsOk N n) : Met l y_Cells_set w_Cells_set ({ frames := 0, cells := 0, slots := 0, locals := 0 }) (va_Pc [.ref h, .int x1, .int x2] (zP D classes (TY cI) [(h, .inr (1, [.ref a, .int n])), (a, .inl (cI, N, .inl f))] sz)) (va_Qv (fun u : (Nat → Int32) => u = F_Cells_set n f x1 x2 ∧ (True)) (fun u => zB D classes (TY cI) (va_A [(h, .inr (1, [.ref a, .int n])), (a, .inl (cI, N, .inl f))] sz) [(h, .inr (1, [.ref a, .int n])), (a, .inl (cI, N, .inl u))]) (va_A [(h, .inr (1, [.ref a, .int n])), (a, .inl (cI, N, .inl f))] sz)) 0 0 (va_A [(h, .inr (1, [.ref a, .int n])), (a, .inl (cI, N, .inl f))] sz) := by
  refine Met.ofW (cc := b_Cells_set) (maxL := 3) (ret := none) (by decide) rfl ?_
  intro p e s m args below meth c s₁ B hml hv
  obtain ⟨rfl, hsz, hP, hK, hD0⟩ := hv
  have hx := B.exec
  have hb := B.bytes
  have hr := B.returns
  have hts := atoms_spec (ws := w_Cells_set) B.pre
  have hT : ∀ w ∈ TB, w.before _ s = true := fun w h => hts w (List.mem_cons_of_mem _ h)
  have hown : s.vm.findClass "ColonMachine$Cells" = some m.cls := findClass_of_methodNamed B.named
  have hlocks := B.notSynchronized
  subst hsz
  have hD := hD0.self (sz := s.heap.size)
  generalize hAe : va_A [(h, .inr (1, [.ref a, .int n])), (a, .inl (cI, N, .inl f))] s.heap.size = A at hD ⊢
  have hA : ∀ q : Nat, s.heap.size ≤ q → A q := fun q h => by rw [← hAe]; exact Or.inr h
  have hS : va_S A s.heap s.heap [] := va_S.rf
  have hl := lv_entry [.ref h, .int x1, .int x2] (n := 3) (Nat.le_of_ble_eq_true rfl)
  rw [lg_entry_eq]
  generalize (lg_sl [.ref h, .int x1, .int x2] ++ List.replicate (3 - (lg_sl [.ref h, .int x1, .int x2]).length) Slot.unset).toArray = ls at hl ⊢
  have hl : lv_has ls 3 [(0, .ref h), (1, .int x1), (2, .int x2)] := hl
  have hF := F_Cells_set_e n f x1 x2
  refine lv_iload_n hx hb d_Cells_set_0 rfl (lv_at hl 1 rfl) ?_
  refine lv_if_lt (tgt := 26) hx hb d_Cells_set_1 (by decide) (fun c1 => ?_) (fun c1 => ?_)
  · have hF := hF.trans (if_pos c1)
    exact W.vret hx hb hr (fun t ht hW => ⟨⟨_, rfl, ⟨hF.symm, trivial⟩, ⟨by rw [ht]; exact hP, va_K.moved hW.alike hK, hD⟩⟩, hS.F ht⟩) hS.2.2 d_Cells_set_26
  · have hF := hF.trans (if_neg c1)
    refine lv_iload_n hx hb d_Cells_set_4 rfl (lv_at hl 1 rfl) ?_
    refine lv_aload_n hx hb d_Cells_set_5 rfl (lv_at hl 0 rfl) ?_
    refine va_get (D := D) (v := .int n) (C := "ColonMachine$Cells") (T := T_Cells) (N := 2) hx hb hT i_Cells hown hK hP 0 rfl rfl 1 (by decide) (hT _ fl_Cells_7) (fun _ h9 => h9) rfl d_Cells_set_6 ?_
    refine lv_icmp_ge (tgt := 26) hx hb d_Cells_set_9 (by decide) (fun c2 => ?_) (fun c2 => ?_)
    · have hF := hF.trans (if_pos c2)
      exact W.vret hx hb hr (fun t ht hW => ⟨⟨_, rfl, ⟨hF.symm, trivial⟩, ⟨by rw [ht]; exact hP, va_K.moved hW.alike hK, hD⟩⟩, hS.F ht⟩) hS.2.2 d_Cells_set_26
    · have hF := hF.trans (if_neg c2)
      refine lv_aload_n hx hb d_Cells_set_12 rfl (lv_at hl 0 rfl) ?_
      refine va_get (D := D) (v := .ref a) (C := "ColonMachine$Cells") (T := T_Cells) (N := 2) hx hb hT i_Cells hown hK hP 0 rfl rfl 0 (by decide) (hT _ fl_Cells_13) (fun _ h9 => h9) rfl d_Cells_set_13 ?_
      refine lv_aload_n hx hb d_Cells_set_16 rfl (lv_at hl 0 rfl) ?_
      refine va_get (D := D) (v := .int n) (C := "ColonMachine$Cells") (T := T_Cells) (N := 2) hx hb hT i_Cells hown hK hP 0 rfl rfl 1 (by decide) (hT _ fl_Cells_7) (fun _ h9 => h9) rfl d_Cells_set_17 ?_
      refine lv_iconst (v := 1) hx hb d_Cells_set_20 (by decide) ?_
      refine lv_isub hx hb d_Cells_set_21 ?_
      refine lv_iload_n hx hb d_Cells_set_22 rfl (lv_at hl 1 rfl) ?_
      refine lv_isub hx hb d_Cells_set_23 ?_
      refine lv_iload_n hx hb d_Cells_set_24 rfl (lv_at hl 2 rfl) ?_
      refine va_iast hx hb hK hP hD hS 1 0 rfl rfl (by have := ti_lo n; have := ti_hi n; have := ti_lo x1; have := ti_hi x1; have : Int32.toInt 1 = 1 := rfl; have : Int32.toInt 0 = 0 := rfl; rw [vp_in_iff]; simp only [CellsOk, CallsOk, TextOk, MemOk, OutOk, Int32.lt_iff_toInt_lt, Int32.le_iff_toInt_le, ← Int32.toInt_inj, Int32.toInt_add, Int32.toInt_sub, Int32.toInt_mul, Int32.toInt_neg, zbm, zbm'] at c1 c2 hi ⊢; omega) d_Cells_set_25 (fun H locs hP hD hS => ?_)
      have hP : va_P D classes [(h, .inr (1, [.ref a, .int n])), (a, .inl (cI, N, .inl (upd f ((n - 1) - x1).toNatClampNeg x2)))] H := hP
      have hD : va_D A [(h, .inr (1, [.ref a, .int n])), (a, .inl (cI, N, .inl (upd f ((n - 1) - x1).toNatClampNeg x2)))] := hD
      exact W.vret hx hb hr (fun t ht hW => ⟨⟨_, rfl, ⟨hF.symm, trivial⟩, ⟨by rw [ht]; exact hP, va_K.moved hW.alike hK, hD⟩⟩, hS.F ht⟩) hS.2.2 d_Cells_set_26
end
section
theorem co_Calls_size : (Jvm.Cond.code ({ cls := "ColonMachine$Calls", name := "size", desc := "()I" } : Jvm.MethodName) prog_2_method_2_code (1 : Nat) (Option.some Jvm.ClassFile.FieldType.int)) ∈ TB := tbI2 _ (List.mem_of_getElem? (i := 16) rfl) rfl
theorem fl_Calls_24 : (Jvm.Cond.fieldLink "ColonMachine$Calls" (24 : Nat) "ColonMachine$Calls" "size" "I") ∈ TB := tbI1 _ (List.mem_of_getElem? (i := 63) rfl) rfl
theorem co_Calls_isEmpty : (Jvm.Cond.code ({ cls := "ColonMachine$Calls", name := "isEmpty", desc := "()Z" } : Jvm.MethodName) prog_2_method_3_code (1 : Nat) (Option.some Jvm.ClassFile.FieldType.boolean)) ∈ TB := tbI2 _ (List.mem_of_getElem? (i := 190) rfl) rfl
theorem co_Calls_isFull : (Jvm.Cond.code ({ cls := "ColonMachine$Calls", name := "isFull", desc := "()Z" } : Jvm.MethodName) prog_2_method_4_code (1 : Nat) (Option.some Jvm.ClassFile.FieldType.boolean)) ∈ TB := tbI5 _ (List.mem_of_getElem? (i := 67) rfl) rfl
theorem co_Calls_add : (Jvm.Cond.code ({ cls := "ColonMachine$Calls", name := "add", desc := "(IIII)V" } : Jvm.MethodName) prog_2_method_7_code (5 : Nat) (Option.none : Option Jvm.ClassFile.FieldType)) ∈ TB := tbI5 _ (List.mem_of_getElem? (i := 76) rfl) rfl
theorem fl_Calls_11 : (Jvm.Cond.fieldLink "ColonMachine$Calls" (11 : Nat) "ColonMachine$Calls" "owners" "[I") ∈ TB := tbI1 _ (List.mem_of_getElem? (i := 59) rfl) rfl
theorem fl_Calls_15 : (Jvm.Cond.fieldLink "ColonMachine$Calls" (15 : Nat) "ColonMachine$Calls" "places" "[I") ∈ TB := tbI1 _ (List.mem_of_getElem? (i := 60) rfl) rfl
theorem fl_Calls_18 : (Jvm.Cond.fieldLink "ColonMachine$Calls" (18 : Nat) "ColonMachine$Calls" "returnSizes" "[I") ∈ TB := tbI1 _ (List.mem_of_getElem? (i := 61) rfl) rfl
theorem fl_Calls_21 : (Jvm.Cond.fieldLink "ColonMachine$Calls" (21 : Nat) "ColonMachine$Calls" "dataSizes" "[I") ∈ TB := tbI1 _ (List.mem_of_getElem? (i := 62) rfl) rfl
theorem co_Calls_begin : (Jvm.Cond.code ({ cls := "ColonMachine$Calls", name := "begin", desc := "(III)V" } : Jvm.MethodName) prog_2_method_5_code (4 : Nat) (Option.none : Option Jvm.ClassFile.FieldType)) ∈ TB := tbI6 _ (List.mem_of_getElem? (i := 132) rfl) rfl
theorem ml_Calls_28 : (Jvm.Cond.methodLink "ColonMachine$Calls" (28 : Nat) ({ cls := "ColonMachine$Calls", name := "add", desc := "(IIII)V" } : Jvm.MethodName)) ∈ TB := tbI5 _ (List.mem_of_getElem? (i := 73) rfl) rfl
theorem im_Calls_add : (Jvm.Cond.instanceMethod ({ cls := "ColonMachine$Calls", name := "add", desc := "(IIII)V" } : Jvm.MethodName)) ∈ TB := tbI5 _ (List.mem_of_getElem? (i := 75) rfl) rfl
theorem se_Calls_add : (Jvm.Cond.selects "ColonMachine$Calls" ({ cls := "ColonMachine$Calls", name := "add", desc := "(IIII)V" } : Jvm.MethodName) ({ cls := "ColonMachine$Calls", name := "add", desc := "(IIII)V" } : Jvm.MethodName)) ∈ TB := tbP _ (List.mem_of_getElem? (i := 27) rfl) rfl
theorem in_Calls : (Jvm.Cond.initialized "ColonMachine$Calls") ∈ TB := tbI1 _ (List.mem_of_getElem? (i := 3) rfl) rfl
theorem co_Calls_beginCatch : (Jvm.Cond.code ({ cls := "ColonMachine$Calls", name := "beginCatch", desc := "(II)V" } : Jvm.MethodName) prog_2_method_6_code (3 : Nat) (Option.none : Option Jvm.ClassFile.FieldType)) ∈ TB := tbI5 _ (List.mem_of_getElem? (i := 72) rfl) rfl
theorem co_Calls_cutTo : (Jvm.Cond.code ({ cls := "ColonMachine$Calls", name := "cutTo", desc := "(I)V" } : Jvm.MethodName) prog_2_method_9_code (2 : Nat) (Option.none : Option Jvm.ClassFile.FieldType)) ∈ TB := tbI5 _ (List.mem_of_getElem? (i := 201) rfl) rfl
theorem co_Calls_end : (Jvm.Cond.code ({ cls := "ColonMachine$Calls", name := "end", desc := "()V" } : Jvm.MethodName) prog_2_method_8_code (1 : Nat) (Option.none : Option Jvm.ClassFile.FieldType)) ∈ TB := tbI5 _ (List.mem_of_getElem? (i := 197) rfl) rfl
theorem ml_Calls_32 : (Jvm.Cond.methodLink "ColonMachine$Calls" (32 : Nat) ({ cls := "ColonMachine$Calls", name := "cutTo", desc := "(I)V" } : Jvm.MethodName)) ∈ TB := tbI5 _ (List.mem_of_getElem? (i := 198) rfl) rfl
theorem im_Calls_cutTo : (Jvm.Cond.instanceMethod ({ cls := "ColonMachine$Calls", name := "cutTo", desc := "(I)V" } : Jvm.MethodName)) ∈ TB := tbI5 _ (List.mem_of_getElem? (i := 199) rfl) rfl
theorem se_Calls_cutTo : (Jvm.Cond.selects "ColonMachine$Calls" ({ cls := "ColonMachine$Calls", name := "cutTo", desc := "(I)V" } : Jvm.MethodName) ({ cls := "ColonMachine$Calls", name := "cutTo", desc := "(I)V" } : Jvm.MethodName)) ∈ TB := tbI5 _ (List.mem_of_getElem? (i := 200) rfl) rfl
theorem co_Calls_topIsCatch : (Jvm.Cond.code ({ cls := "ColonMachine$Calls", name := "topIsCatch", desc := "()Z" } : Jvm.MethodName) prog_2_method_10_code (1 : Nat) (Option.some Jvm.ClassFile.FieldType.boolean)) ∈ TB := tbI6 _ (List.mem_of_getElem? (i := 160) rfl) rfl
theorem co_Calls_topIsBody : (Jvm.Cond.code ({ cls := "ColonMachine$Calls", name := "topIsBody", desc := "()Z" } : Jvm.MethodName) prog_2_method_11_code (1 : Nat) (Option.some Jvm.ClassFile.FieldType.boolean)) ∈ TB := tbI5 _ (List.mem_of_getElem? (i := 91) rfl) rfl
theorem co_Calls_topOwner : (Jvm.Cond.code ({ cls := "ColonMachine$Calls", name := "topOwner", desc := "()I" } : Jvm.MethodName) prog_2_method_12_code (1 : Nat) (Option.some Jvm.ClassFile.FieldType.int)) ∈ TB := tbI6 _ (List.mem_of_getElem? (i := 173) rfl) rfl
theorem co_Calls_topPlace : (Jvm.Cond.code ({ cls := "ColonMachine$Calls", name := "topPlace", desc := "()I" } : Jvm.MethodName) prog_2_method_13_code (1 : Nat) (Option.some Jvm.ClassFile.FieldType.int)) ∈ TB := tbI6 _ (List.mem_of_getElem? (i := 177) rfl) rfl
theorem co_Calls_goTo : (Jvm.Cond.code ({ cls := "ColonMachine$Calls", name := "goTo", desc := "(I)V" } : Jvm.MethodName) prog_2_method_14_code (2 : Nat) (Option.none : Option Jvm.ClassFile.FieldType)) ∈ TB := tbI6 _ (List.mem_of_getElem? (i := 181) rfl) rfl
theorem co_Calls_ownReturns : (Jvm.Cond.code ({ cls := "ColonMachine$Calls", name := "ownReturns", desc := "(I)I" } : Jvm.MethodName) prog_2_method_15_code (2 : Nat) (Option.some Jvm.ClassFile.FieldType.int)) ∈ TB := tbI5 _ (List.mem_of_getElem? (i := 99) rfl) rfl
theorem co_Calls_holdBodyFrom : (Jvm.Cond.code ({ cls := "ColonMachine$Calls", name := "holdBodyFrom", desc := "(I)Z" } : Jvm.MethodName) prog_2_method_16_code (3 : Nat) (Option.some Jvm.ClassFile.FieldType.boolean)) ∈ TB := tbI6 _ (List.mem_of_getElem? (i := 144) rfl) rfl
theorem co_Calls_latestCatch : (Jvm.Cond.code ({ cls := "ColonMachine$Calls", name := "latestCatch", desc := "()I" } : Jvm.MethodName) prog_2_method_17_code (2 : Nat) (Option.some Jvm.ClassFile.FieldType.int)) ∈ TB := tbI6 _ (List.mem_of_getElem? (i := 238) rfl) rfl
theorem co_Calls_returnsAt : (Jvm.Cond.code ({ cls := "ColonMachine$Calls", name := "returnsAt", desc := "(I)I" } : Jvm.MethodName) prog_2_method_18_code (2 : Nat) (Option.some Jvm.ClassFile.FieldType.int)) ∈ TB := tbI7 _ (List.mem_of_getElem? (i := 6) rfl) rfl
theorem co_Calls_dataAt : (Jvm.Cond.code ({ cls := "ColonMachine$Calls", name := "dataAt", desc := "(I)I" } : Jvm.MethodName) prog_2_method_19_code (2 : Nat) (Option.some Jvm.ClassFile.FieldType.int)) ∈ TB := tbI7 _ (List.mem_of_getElem? (i := 10) rfl) rfl
abbrev b_Calls_size : ByteArray := prog_2_method_2_code
def y_Calls_size : MethodName := { cls := "ColonMachine$Calls", name := "size", desc := "()I" }
abbrev w_Calls_size : List Cond := .code y_Calls_size b_Calls_size 1 (Option.some Jvm.ClassFile.FieldType.int) :: TB
abbrev b_Calls_isEmpty : ByteArray := prog_2_method_3_code
def y_Calls_isEmpty : MethodName := { cls := "ColonMachine$Calls", name := "isEmpty", desc := "()Z" }
abbrev w_Calls_isEmpty : List Cond := .code y_Calls_isEmpty b_Calls_isEmpty 1 (Option.some Jvm.ClassFile.FieldType.boolean) :: TB
abbrev b_Calls_isFull : ByteArray := prog_2_method_4_code
def y_Calls_isFull : MethodName := { cls := "ColonMachine$Calls", name := "isFull", desc := "()Z" }
abbrev w_Calls_isFull : List Cond := .code y_Calls_isFull b_Calls_isFull 1 (Option.some Jvm.ClassFile.FieldType.boolean) :: TB
abbrev b_Calls_add : ByteArray := prog_2_method_7_code
def y_Calls_add : MethodName := { cls := "ColonMachine$Calls", name := "add", desc := "(IIII)V" }
abbrev w_Calls_add : List Cond := .code y_Calls_add b_Calls_add 5 (Option.none : Option Jvm.ClassFile.FieldType) :: TB
abbrev b_Calls_begin : ByteArray := prog_2_method_5_code
def y_Calls_begin : MethodName := { cls := "ColonMachine$Calls", name := "begin", desc := "(III)V" }
abbrev w_Calls_begin : List Cond := .code y_Calls_begin b_Calls_begin 4 (Option.none : Option Jvm.ClassFile.FieldType) :: TB
theorem v_Calls_add : y_Calls_add.cls = "ColonMachine$Calls" ∧ y_Calls_add.cls ≠ "java/lang/invoke/MethodHandle" ∧ y_Calls_add.cls ≠ "java/lang/invoke/VarHandle" ∧ (parseMethodDescriptor y_Calls_add.desc).map (fun d => d.parameters.length) = some 4 := by decide +kernel
abbrev b_Calls_beginCatch : ByteArray := prog_2_method_6_code
def y_Calls_beginCatch : MethodName := { cls := "ColonMachine$Calls", name := "beginCatch", desc := "(II)V" }
abbrev w_Calls_beginCatch : List Cond := .code y_Calls_beginCatch b_Calls_beginCatch 3 (Option.none : Option Jvm.ClassFile.FieldType) :: TB
abbrev b_Calls_cutTo : ByteArray := prog_2_method_9_code
def y_Calls_cutTo : MethodName := { cls := "ColonMachine$Calls", name := "cutTo", desc := "(I)V" }
abbrev w_Calls_cutTo : List Cond := .code y_Calls_cutTo b_Calls_cutTo 2 (Option.none : Option Jvm.ClassFile.FieldType) :: TB
abbrev b_Calls_end : ByteArray := prog_2_method_8_code
def y_Calls_end : MethodName := { cls := "ColonMachine$Calls", name := "end", desc := "()V" }
abbrev w_Calls_end : List Cond := .code y_Calls_end b_Calls_end 1 (Option.none : Option Jvm.ClassFile.FieldType) :: TB
theorem v_Calls_cutTo : y_Calls_cutTo.cls = "ColonMachine$Calls" ∧ y_Calls_cutTo.cls ≠ "java/lang/invoke/MethodHandle" ∧ y_Calls_cutTo.cls ≠ "java/lang/invoke/VarHandle" ∧ (parseMethodDescriptor y_Calls_cutTo.desc).map (fun d => d.parameters.length) = some 1 := by decide +kernel
abbrev b_Calls_topIsCatch : ByteArray := prog_2_method_10_code
def y_Calls_topIsCatch : MethodName := { cls := "ColonMachine$Calls", name := "topIsCatch", desc := "()Z" }
abbrev w_Calls_topIsCatch : List Cond := .code y_Calls_topIsCatch b_Calls_topIsCatch 1 (Option.some Jvm.ClassFile.FieldType.boolean) :: TB
abbrev b_Calls_topIsBody : ByteArray := prog_2_method_11_code
def y_Calls_topIsBody : MethodName := { cls := "ColonMachine$Calls", name := "topIsBody", desc := "()Z" }
abbrev w_Calls_topIsBody : List Cond := .code y_Calls_topIsBody b_Calls_topIsBody 1 (Option.some Jvm.ClassFile.FieldType.boolean) :: TB
abbrev b_Calls_topOwner : ByteArray := prog_2_method_12_code
def y_Calls_topOwner : MethodName := { cls := "ColonMachine$Calls", name := "topOwner", desc := "()I" }
abbrev w_Calls_topOwner : List Cond := .code y_Calls_topOwner b_Calls_topOwner 1 (Option.some Jvm.ClassFile.FieldType.int) :: TB
abbrev b_Calls_topPlace : ByteArray := prog_2_method_13_code
def y_Calls_topPlace : MethodName := { cls := "ColonMachine$Calls", name := "topPlace", desc := "()I" }
abbrev w_Calls_topPlace : List Cond := .code y_Calls_topPlace b_Calls_topPlace 1 (Option.some Jvm.ClassFile.FieldType.int) :: TB
abbrev b_Calls_goTo : ByteArray := prog_2_method_14_code
def y_Calls_goTo : MethodName := { cls := "ColonMachine$Calls", name := "goTo", desc := "(I)V" }
abbrev w_Calls_goTo : List Cond := .code y_Calls_goTo b_Calls_goTo 2 (Option.none : Option Jvm.ClassFile.FieldType) :: TB
abbrev b_Calls_ownReturns : ByteArray := prog_2_method_15_code
def y_Calls_ownReturns : MethodName := { cls := "ColonMachine$Calls", name := "ownReturns", desc := "(I)I" }
abbrev w_Calls_ownReturns : List Cond := .code y_Calls_ownReturns b_Calls_ownReturns 2 (Option.some Jvm.ClassFile.FieldType.int) :: TB
abbrev b_Calls_holdBodyFrom : ByteArray := prog_2_method_16_code
def y_Calls_holdBodyFrom : MethodName := { cls := "ColonMachine$Calls", name := "holdBodyFrom", desc := "(I)Z" }
abbrev w_Calls_holdBodyFrom : List Cond := .code y_Calls_holdBodyFrom b_Calls_holdBodyFrom 3 (Option.some Jvm.ClassFile.FieldType.boolean) :: TB
abbrev b_Calls_latestCatch : ByteArray := prog_2_method_17_code
def y_Calls_latestCatch : MethodName := { cls := "ColonMachine$Calls", name := "latestCatch", desc := "()I" }
abbrev w_Calls_latestCatch : List Cond := .code y_Calls_latestCatch b_Calls_latestCatch 2 (Option.some Jvm.ClassFile.FieldType.int) :: TB
abbrev b_Calls_returnsAt : ByteArray := prog_2_method_18_code
def y_Calls_returnsAt : MethodName := { cls := "ColonMachine$Calls", name := "returnsAt", desc := "(I)I" }
abbrev w_Calls_returnsAt : List Cond := .code y_Calls_returnsAt b_Calls_returnsAt 2 (Option.some Jvm.ClassFile.FieldType.int) :: TB
abbrev b_Calls_dataAt : ByteArray := prog_2_method_19_code
def y_Calls_dataAt : MethodName := { cls := "ColonMachine$Calls", name := "dataAt", desc := "(I)I" }
abbrev w_Calls_dataAt : List Cond := .code y_Calls_dataAt b_Calls_dataAt 2 (Option.some Jvm.ClassFile.FieldType.int) :: TB
theorem d_Calls_size_0 : decode b_Calls_size 0 = .ok (.aload_n 0, 1) := by decide +kernel
theorem d_Calls_size_1 : decode b_Calls_size 1 = .ok (.getfield 24, 3) := by decide +kernel
theorem d_Calls_size_4 : decode b_Calls_size 4 = .ok (.ireturn, 1) := by decide +kernel
theorem d_Calls_isEmpty_0 : decode b_Calls_isEmpty 0 = .ok (.aload_n 0, 1) := by decide +kernel
theorem d_Calls_isEmpty_1 : decode b_Calls_isEmpty 1 = .ok (.getfield 24, 3) := by decide +kernel
theorem d_Calls_isEmpty_4 : decode b_Calls_isEmpty 4 = .ok (.ifCond .ne 7, 3) := by decide +kernel
theorem d_Calls_isEmpty_11 : decode b_Calls_isEmpty 11 = .ok (.iconst 0, 1) := by decide +kernel
theorem d_Calls_isEmpty_12 : decode b_Calls_isEmpty 12 = .ok (.ireturn, 1) := by decide +kernel
theorem d_Calls_isEmpty_7 : decode b_Calls_isEmpty 7 = .ok (.iconst 1, 1) := by decide +kernel
theorem d_Calls_isEmpty_8 : decode b_Calls_isEmpty 8 = .ok (.goto 4, 3) := by decide +kernel
theorem d_Calls_isFull_0 : decode b_Calls_isFull 0 = .ok (.aload_n 0, 1) := by decide +kernel
theorem d_Calls_isFull_1 : decode b_Calls_isFull 1 = .ok (.getfield 24, 3) := by decide +kernel
theorem d_Calls_isFull_4 : decode b_Calls_isFull 4 = .ok (.bipush 40, 2) := by decide +kernel
theorem d_Calls_isFull_6 : decode b_Calls_isFull 6 = .ok (.if_icmp .lt 7, 3) := by decide +kernel
theorem d_Calls_isFull_13 : decode b_Calls_isFull 13 = .ok (.iconst 0, 1) := by decide +kernel
theorem d_Calls_isFull_14 : decode b_Calls_isFull 14 = .ok (.ireturn, 1) := by decide +kernel
theorem d_Calls_isFull_9 : decode b_Calls_isFull 9 = .ok (.iconst 1, 1) := by decide +kernel
theorem d_Calls_isFull_10 : decode b_Calls_isFull 10 = .ok (.goto 4, 3) := by decide +kernel
theorem d_Calls_add_0 : decode b_Calls_add 0 = .ok (.aload_n 0, 1) := by decide +kernel
theorem d_Calls_add_1 : decode b_Calls_add 1 = .ok (.getfield 24, 3) := by decide +kernel
theorem d_Calls_add_4 : decode b_Calls_add 4 = .ok (.bipush 40, 2) := by decide +kernel
theorem d_Calls_add_6 : decode b_Calls_add 6 = .ok (.if_icmp .ge 54, 3) := by decide +kernel
theorem d_Calls_add_60 : decode b_Calls_add 60 = .ok (.return_, 1) := by decide +kernel
theorem d_Calls_add_9 : decode b_Calls_add 9 = .ok (.aload_n 0, 1) := by decide +kernel
theorem d_Calls_add_10 : decode b_Calls_add 10 = .ok (.getfield 11, 3) := by decide +kernel
theorem d_Calls_add_13 : decode b_Calls_add 13 = .ok (.aload_n 0, 1) := by decide +kernel
theorem d_Calls_add_14 : decode b_Calls_add 14 = .ok (.getfield 24, 3) := by decide +kernel
theorem d_Calls_add_17 : decode b_Calls_add 17 = .ok (.iload_n 1, 1) := by decide +kernel
theorem d_Calls_add_18 : decode b_Calls_add 18 = .ok (.iastore, 1) := by decide +kernel
theorem d_Calls_add_19 : decode b_Calls_add 19 = .ok (.aload_n 0, 1) := by decide +kernel
theorem d_Calls_add_20 : decode b_Calls_add 20 = .ok (.getfield 15, 3) := by decide +kernel
theorem d_Calls_add_23 : decode b_Calls_add 23 = .ok (.aload_n 0, 1) := by decide +kernel
theorem d_Calls_add_24 : decode b_Calls_add 24 = .ok (.getfield 24, 3) := by decide +kernel
theorem d_Calls_add_27 : decode b_Calls_add 27 = .ok (.iload_n 2, 1) := by decide +kernel
theorem d_Calls_add_28 : decode b_Calls_add 28 = .ok (.iastore, 1) := by decide +kernel
theorem d_Calls_add_29 : decode b_Calls_add 29 = .ok (.aload_n 0, 1) := by decide +kernel
theorem d_Calls_add_30 : decode b_Calls_add 30 = .ok (.getfield 18, 3) := by decide +kernel
theorem d_Calls_add_33 : decode b_Calls_add 33 = .ok (.aload_n 0, 1) := by decide +kernel
theorem d_Calls_add_34 : decode b_Calls_add 34 = .ok (.getfield 24, 3) := by decide +kernel
theorem d_Calls_add_37 : decode b_Calls_add 37 = .ok (.iload_n 3, 1) := by decide +kernel
theorem d_Calls_add_38 : decode b_Calls_add 38 = .ok (.iastore, 1) := by decide +kernel
theorem d_Calls_add_39 : decode b_Calls_add 39 = .ok (.aload_n 0, 1) := by decide +kernel
theorem d_Calls_add_40 : decode b_Calls_add 40 = .ok (.getfield 21, 3) := by decide +kernel
theorem d_Calls_add_43 : decode b_Calls_add 43 = .ok (.aload_n 0, 1) := by decide +kernel
theorem d_Calls_add_44 : decode b_Calls_add 44 = .ok (.getfield 24, 3) := by decide +kernel
theorem d_Calls_add_47 : decode b_Calls_add 47 = .ok (.iload 4, 2) := by decide +kernel
theorem d_Calls_add_49 : decode b_Calls_add 49 = .ok (.iastore, 1) := by decide +kernel
theorem d_Calls_add_50 : decode b_Calls_add 50 = .ok (.aload_n 0, 1) := by decide +kernel
theorem d_Calls_add_51 : decode b_Calls_add 51 = .ok (.dup, 1) := by decide +kernel
theorem d_Calls_add_52 : decode b_Calls_add 52 = .ok (.getfield 24, 3) := by decide +kernel
theorem d_Calls_add_55 : decode b_Calls_add 55 = .ok (.iconst 1, 1) := by decide +kernel
theorem d_Calls_add_56 : decode b_Calls_add 56 = .ok (.iadd, 1) := by decide +kernel
theorem d_Calls_add_57 : decode b_Calls_add 57 = .ok (.putfield 24, 3) := by decide +kernel
theorem d_Calls_begin_0 : decode b_Calls_begin 0 = .ok (.aload_n 0, 1) := by decide +kernel
theorem d_Calls_begin_1 : decode b_Calls_begin 1 = .ok (.iload_n 1, 1) := by decide +kernel
theorem d_Calls_begin_2 : decode b_Calls_begin 2 = .ok (.iload_n 2, 1) := by decide +kernel
theorem d_Calls_begin_3 : decode b_Calls_begin 3 = .ok (.iload_n 3, 1) := by decide +kernel
theorem d_Calls_begin_4 : decode b_Calls_begin 4 = .ok (.iconst 0, 1) := by decide +kernel
theorem d_Calls_begin_5 : decode b_Calls_begin 5 = .ok (.invokevirtual 28, 3) := by decide +kernel
theorem d_Calls_begin_8 : decode b_Calls_begin 8 = .ok (.return_, 1) := by decide +kernel
theorem d_Calls_beginCatch_0 : decode b_Calls_beginCatch 0 = .ok (.aload_n 0, 1) := by decide +kernel
theorem d_Calls_beginCatch_1 : decode b_Calls_beginCatch 1 = .ok (.iconst (-1), 1) := by decide +kernel
theorem d_Calls_beginCatch_2 : decode b_Calls_beginCatch 2 = .ok (.iconst 0, 1) := by decide +kernel
theorem d_Calls_beginCatch_3 : decode b_Calls_beginCatch 3 = .ok (.iload_n 1, 1) := by decide +kernel
theorem d_Calls_beginCatch_4 : decode b_Calls_beginCatch 4 = .ok (.iload_n 2, 1) := by decide +kernel
theorem d_Calls_beginCatch_5 : decode b_Calls_beginCatch 5 = .ok (.invokevirtual 28, 3) := by decide +kernel
theorem d_Calls_beginCatch_8 : decode b_Calls_beginCatch 8 = .ok (.return_, 1) := by decide +kernel
theorem d_Calls_cutTo_0 : decode b_Calls_cutTo 0 = .ok (.iload_n 1, 1) := by decide +kernel
theorem d_Calls_cutTo_1 : decode b_Calls_cutTo 1 = .ok (.ifCond .lt 16, 3) := by decide +kernel
theorem d_Calls_cutTo_17 : decode b_Calls_cutTo 17 = .ok (.return_, 1) := by decide +kernel
theorem d_Calls_cutTo_4 : decode b_Calls_cutTo 4 = .ok (.iload_n 1, 1) := by decide +kernel
theorem d_Calls_cutTo_5 : decode b_Calls_cutTo 5 = .ok (.aload_n 0, 1) := by decide +kernel
theorem d_Calls_cutTo_6 : decode b_Calls_cutTo 6 = .ok (.getfield 24, 3) := by decide +kernel
theorem d_Calls_cutTo_9 : decode b_Calls_cutTo 9 = .ok (.if_icmp .ge 8, 3) := by decide +kernel
theorem d_Calls_cutTo_12 : decode b_Calls_cutTo 12 = .ok (.aload_n 0, 1) := by decide +kernel
theorem d_Calls_cutTo_13 : decode b_Calls_cutTo 13 = .ok (.iload_n 1, 1) := by decide +kernel
theorem d_Calls_cutTo_14 : decode b_Calls_cutTo 14 = .ok (.putfield 24, 3) := by decide +kernel
theorem d_Calls_end_0 : decode b_Calls_end 0 = .ok (.aload_n 0, 1) := by decide +kernel
theorem d_Calls_end_1 : decode b_Calls_end 1 = .ok (.aload_n 0, 1) := by decide +kernel
theorem d_Calls_end_2 : decode b_Calls_end 2 = .ok (.getfield 24, 3) := by decide +kernel
theorem d_Calls_end_5 : decode b_Calls_end 5 = .ok (.iconst 1, 1) := by decide +kernel
theorem d_Calls_end_6 : decode b_Calls_end 6 = .ok (.isub, 1) := by decide +kernel
theorem d_Calls_end_7 : decode b_Calls_end 7 = .ok (.invokevirtual 32, 3) := by decide +kernel
theorem d_Calls_end_10 : decode b_Calls_end 10 = .ok (.return_, 1) := by decide +kernel
theorem d_Calls_topIsCatch_0 : decode b_Calls_topIsCatch 0 = .ok (.aload_n 0, 1) := by decide +kernel
theorem d_Calls_topIsCatch_1 : decode b_Calls_topIsCatch 1 = .ok (.getfield 24, 3) := by decide +kernel
theorem d_Calls_topIsCatch_4 : decode b_Calls_topIsCatch 4 = .ok (.ifCond .le 22, 3) := by decide +kernel
theorem d_Calls_topIsCatch_26 : decode b_Calls_topIsCatch 26 = .ok (.iconst 0, 1) := by decide +kernel
theorem d_Calls_topIsCatch_27 : decode b_Calls_topIsCatch 27 = .ok (.ireturn, 1) := by decide +kernel
theorem d_Calls_topIsCatch_7 : decode b_Calls_topIsCatch 7 = .ok (.aload_n 0, 1) := by decide +kernel
theorem d_Calls_topIsCatch_8 : decode b_Calls_topIsCatch 8 = .ok (.getfield 11, 3) := by decide +kernel
theorem d_Calls_topIsCatch_11 : decode b_Calls_topIsCatch 11 = .ok (.aload_n 0, 1) := by decide +kernel
theorem d_Calls_topIsCatch_12 : decode b_Calls_topIsCatch 12 = .ok (.getfield 24, 3) := by decide +kernel
theorem d_Calls_topIsCatch_15 : decode b_Calls_topIsCatch 15 = .ok (.iconst 1, 1) := by decide +kernel
theorem d_Calls_topIsCatch_16 : decode b_Calls_topIsCatch 16 = .ok (.isub, 1) := by decide +kernel
theorem d_Calls_topIsCatch_17 : decode b_Calls_topIsCatch 17 = .ok (.iaload, 1) := by decide +kernel
theorem d_Calls_topIsCatch_18 : decode b_Calls_topIsCatch 18 = .ok (.iconst (-1), 1) := by decide +kernel
theorem d_Calls_topIsCatch_19 : decode b_Calls_topIsCatch 19 = .ok (.if_icmp .ne 7, 3) := by decide +kernel
theorem d_Calls_topIsCatch_22 : decode b_Calls_topIsCatch 22 = .ok (.iconst 1, 1) := by decide +kernel
theorem d_Calls_topIsCatch_23 : decode b_Calls_topIsCatch 23 = .ok (.goto 4, 3) := by decide +kernel
theorem d_Calls_topIsBody_0 : decode b_Calls_topIsBody 0 = .ok (.aload_n 0, 1) := by decide +kernel
theorem d_Calls_topIsBody_1 : decode b_Calls_topIsBody 1 = .ok (.getfield 24, 3) := by decide +kernel
theorem d_Calls_topIsBody_4 : decode b_Calls_topIsBody 4 = .ok (.ifCond .le 22, 3) := by decide +kernel
theorem d_Calls_topIsBody_26 : decode b_Calls_topIsBody 26 = .ok (.iconst 0, 1) := by decide +kernel
theorem d_Calls_topIsBody_27 : decode b_Calls_topIsBody 27 = .ok (.ireturn, 1) := by decide +kernel
theorem d_Calls_topIsBody_7 : decode b_Calls_topIsBody 7 = .ok (.aload_n 0, 1) := by decide +kernel
theorem d_Calls_topIsBody_8 : decode b_Calls_topIsBody 8 = .ok (.getfield 11, 3) := by decide +kernel
theorem d_Calls_topIsBody_11 : decode b_Calls_topIsBody 11 = .ok (.aload_n 0, 1) := by decide +kernel
theorem d_Calls_topIsBody_12 : decode b_Calls_topIsBody 12 = .ok (.getfield 24, 3) := by decide +kernel
theorem d_Calls_topIsBody_15 : decode b_Calls_topIsBody 15 = .ok (.iconst 1, 1) := by decide +kernel
theorem d_Calls_topIsBody_16 : decode b_Calls_topIsBody 16 = .ok (.isub, 1) := by decide +kernel
theorem d_Calls_topIsBody_17 : decode b_Calls_topIsBody 17 = .ok (.iaload, 1) := by decide +kernel
theorem d_Calls_topIsBody_18 : decode b_Calls_topIsBody 18 = .ok (.iconst (-1), 1) := by decide +kernel
theorem d_Calls_topIsBody_19 : decode b_Calls_topIsBody 19 = .ok (.if_icmp .eq 7, 3) := by decide +kernel
theorem d_Calls_topIsBody_22 : decode b_Calls_topIsBody 22 = .ok (.iconst 1, 1) := by decide +kernel
theorem d_Calls_topIsBody_23 : decode b_Calls_topIsBody 23 = .ok (.goto 4, 3) := by decide +kernel
theorem d_Calls_topOwner_0 : decode b_Calls_topOwner 0 = .ok (.aload_n 0, 1) := by decide +kernel
theorem d_Calls_topOwner_1 : decode b_Calls_topOwner 1 = .ok (.getfield 24, 3) := by decide +kernel
theorem d_Calls_topOwner_4 : decode b_Calls_topOwner 4 = .ok (.ifCond .le 17, 3) := by decide +kernel
theorem d_Calls_topOwner_21 : decode b_Calls_topOwner 21 = .ok (.iconst (-1), 1) := by decide +kernel
theorem d_Calls_topOwner_22 : decode b_Calls_topOwner 22 = .ok (.ireturn, 1) := by decide +kernel
theorem d_Calls_topOwner_7 : decode b_Calls_topOwner 7 = .ok (.aload_n 0, 1) := by decide +kernel
theorem d_Calls_topOwner_8 : decode b_Calls_topOwner 8 = .ok (.getfield 11, 3) := by decide +kernel
theorem d_Calls_topOwner_11 : decode b_Calls_topOwner 11 = .ok (.aload_n 0, 1) := by decide +kernel
theorem d_Calls_topOwner_12 : decode b_Calls_topOwner 12 = .ok (.getfield 24, 3) := by decide +kernel
theorem d_Calls_topOwner_15 : decode b_Calls_topOwner 15 = .ok (.iconst 1, 1) := by decide +kernel
theorem d_Calls_topOwner_16 : decode b_Calls_topOwner 16 = .ok (.isub, 1) := by decide +kernel
theorem d_Calls_topOwner_17 : decode b_Calls_topOwner 17 = .ok (.iaload, 1) := by decide +kernel
theorem d_Calls_topOwner_18 : decode b_Calls_topOwner 18 = .ok (.goto 4, 3) := by decide +kernel
theorem d_Calls_topPlace_0 : decode b_Calls_topPlace 0 = .ok (.aload_n 0, 1) := by decide +kernel
theorem d_Calls_topPlace_1 : decode b_Calls_topPlace 1 = .ok (.getfield 24, 3) := by decide +kernel
theorem d_Calls_topPlace_4 : decode b_Calls_topPlace 4 = .ok (.ifCond .le 17, 3) := by decide +kernel
theorem d_Calls_topPlace_21 : decode b_Calls_topPlace 21 = .ok (.iconst 0, 1) := by decide +kernel
theorem d_Calls_topPlace_22 : decode b_Calls_topPlace 22 = .ok (.ireturn, 1) := by decide +kernel
theorem d_Calls_topPlace_7 : decode b_Calls_topPlace 7 = .ok (.aload_n 0, 1) := by decide +kernel
theorem d_Calls_topPlace_8 : decode b_Calls_topPlace 8 = .ok (.getfield 15, 3) := by decide +kernel
theorem d_Calls_topPlace_11 : decode b_Calls_topPlace 11 = .ok (.aload_n 0, 1) := by decide +kernel
theorem d_Calls_topPlace_12 : decode b_Calls_topPlace 12 = .ok (.getfield 24, 3) := by decide +kernel
theorem d_Calls_topPlace_15 : decode b_Calls_topPlace 15 = .ok (.iconst 1, 1) := by decide +kernel
theorem d_Calls_topPlace_16 : decode b_Calls_topPlace 16 = .ok (.isub, 1) := by decide +kernel
theorem d_Calls_topPlace_17 : decode b_Calls_topPlace 17 = .ok (.iaload, 1) := by decide +kernel
theorem d_Calls_topPlace_18 : decode b_Calls_topPlace 18 = .ok (.goto 4, 3) := by decide +kernel
theorem d_Calls_goTo_0 : decode b_Calls_goTo 0 = .ok (.aload_n 0, 1) := by decide +kernel
theorem d_Calls_goTo_1 : decode b_Calls_goTo 1 = .ok (.getfield 24, 3) := by decide +kernel
theorem d_Calls_goTo_4 : decode b_Calls_goTo 4 = .ok (.ifCond .le 15, 3) := by decide +kernel
theorem d_Calls_goTo_19 : decode b_Calls_goTo 19 = .ok (.return_, 1) := by decide +kernel
theorem d_Calls_goTo_7 : decode b_Calls_goTo 7 = .ok (.aload_n 0, 1) := by decide +kernel
theorem d_Calls_goTo_8 : decode b_Calls_goTo 8 = .ok (.getfield 15, 3) := by decide +kernel
theorem d_Calls_goTo_11 : decode b_Calls_goTo 11 = .ok (.aload_n 0, 1) := by decide +kernel
theorem d_Calls_goTo_12 : decode b_Calls_goTo 12 = .ok (.getfield 24, 3) := by decide +kernel
theorem d_Calls_goTo_15 : decode b_Calls_goTo 15 = .ok (.iconst 1, 1) := by decide +kernel
theorem d_Calls_goTo_16 : decode b_Calls_goTo 16 = .ok (.isub, 1) := by decide +kernel
theorem d_Calls_goTo_17 : decode b_Calls_goTo 17 = .ok (.iload_n 1, 1) := by decide +kernel
theorem d_Calls_goTo_18 : decode b_Calls_goTo 18 = .ok (.iastore, 1) := by decide +kernel
theorem d_Calls_ownReturns_0 : decode b_Calls_ownReturns 0 = .ok (.aload_n 0, 1) := by decide +kernel
theorem d_Calls_ownReturns_1 : decode b_Calls_ownReturns 1 = .ok (.getfield 24, 3) := by decide +kernel
theorem d_Calls_ownReturns_4 : decode b_Calls_ownReturns 4 = .ok (.ifCond .le 19, 3) := by decide +kernel
theorem d_Calls_ownReturns_23 : decode b_Calls_ownReturns 23 = .ok (.iconst 0, 1) := by decide +kernel
theorem d_Calls_ownReturns_24 : decode b_Calls_ownReturns 24 = .ok (.ireturn, 1) := by decide +kernel
theorem d_Calls_ownReturns_7 : decode b_Calls_ownReturns 7 = .ok (.iload_n 1, 1) := by decide +kernel
theorem d_Calls_ownReturns_8 : decode b_Calls_ownReturns 8 = .ok (.aload_n 0, 1) := by decide +kernel
theorem d_Calls_ownReturns_9 : decode b_Calls_ownReturns 9 = .ok (.getfield 18, 3) := by decide +kernel
theorem d_Calls_ownReturns_12 : decode b_Calls_ownReturns 12 = .ok (.aload_n 0, 1) := by decide +kernel
theorem d_Calls_ownReturns_13 : decode b_Calls_ownReturns 13 = .ok (.getfield 24, 3) := by decide +kernel
theorem d_Calls_ownReturns_16 : decode b_Calls_ownReturns 16 = .ok (.iconst 1, 1) := by decide +kernel
theorem d_Calls_ownReturns_17 : decode b_Calls_ownReturns 17 = .ok (.isub, 1) := by decide +kernel
theorem d_Calls_ownReturns_18 : decode b_Calls_ownReturns 18 = .ok (.iaload, 1) := by decide +kernel
theorem d_Calls_ownReturns_19 : decode b_Calls_ownReturns 19 = .ok (.isub, 1) := by decide +kernel
theorem d_Calls_ownReturns_20 : decode b_Calls_ownReturns 20 = .ok (.goto 4, 3) := by decide +kernel
theorem d_Calls_holdBodyFrom_0 : decode b_Calls_holdBodyFrom 0 = .ok (.iconst 0, 1) := by decide +kernel
theorem d_Calls_holdBodyFrom_1 : decode b_Calls_holdBodyFrom 1 = .ok (.istore_n 2, 1) := by decide +kernel
theorem d_Calls_holdBodyFrom_2 : decode b_Calls_holdBodyFrom 2 = .ok (.iload_n 2, 1) := by decide +kernel
theorem d_Calls_holdBodyFrom_3 : decode b_Calls_holdBodyFrom 3 = .ok (.aload_n 0, 1) := by decide +kernel
theorem d_Calls_holdBodyFrom_4 : decode b_Calls_holdBodyFrom 4 = .ok (.getfield 24, 3) := by decide +kernel
theorem d_Calls_holdBodyFrom_7 : decode b_Calls_holdBodyFrom 7 = .ok (.if_icmp .ge 21, 3) := by decide +kernel
theorem d_Calls_holdBodyFrom_28 : decode b_Calls_holdBodyFrom 28 = .ok (.iconst 0, 1) := by decide +kernel
theorem d_Calls_holdBodyFrom_29 : decode b_Calls_holdBodyFrom 29 = .ok (.ireturn, 1) := by decide +kernel
theorem d_Calls_holdBodyFrom_10 : decode b_Calls_holdBodyFrom 10 = .ok (.aload_n 0, 1) := by decide +kernel
theorem d_Calls_holdBodyFrom_11 : decode b_Calls_holdBodyFrom 11 = .ok (.getfield 11, 3) := by decide +kernel
theorem d_Calls_holdBodyFrom_14 : decode b_Calls_holdBodyFrom 14 = .ok (.iload_n 2, 1) := by decide +kernel
theorem d_Calls_holdBodyFrom_15 : decode b_Calls_holdBodyFrom 15 = .ok (.iaload, 1) := by decide +kernel
theorem d_Calls_holdBodyFrom_16 : decode b_Calls_holdBodyFrom 16 = .ok (.iload_n 1, 1) := by decide +kernel
theorem d_Calls_holdBodyFrom_17 : decode b_Calls_holdBodyFrom 17 = .ok (.if_icmp .lt 5, 3) := by decide +kernel
theorem d_Calls_holdBodyFrom_22 : decode b_Calls_holdBodyFrom 22 = .ok (.iinc 2 1, 3) := by decide +kernel
theorem d_Calls_holdBodyFrom_25 : decode b_Calls_holdBodyFrom 25 = .ok (.goto (-23), 3) := by decide +kernel
theorem d_Calls_holdBodyFrom_20 : decode b_Calls_holdBodyFrom 20 = .ok (.iconst 1, 1) := by decide +kernel
theorem d_Calls_holdBodyFrom_21 : decode b_Calls_holdBodyFrom 21 = .ok (.ireturn, 1) := by decide +kernel
theorem d_Calls_latestCatch_0 : decode b_Calls_latestCatch 0 = .ok (.aload_n 0, 1) := by decide +kernel
theorem d_Calls_latestCatch_1 : decode b_Calls_latestCatch 1 = .ok (.getfield 24, 3) := by decide +kernel
theorem d_Calls_latestCatch_4 : decode b_Calls_latestCatch 4 = .ok (.iconst 1, 1) := by decide +kernel
theorem d_Calls_latestCatch_5 : decode b_Calls_latestCatch 5 = .ok (.isub, 1) := by decide +kernel
theorem d_Calls_latestCatch_6 : decode b_Calls_latestCatch 6 = .ok (.istore_n 1, 1) := by decide +kernel
theorem d_Calls_latestCatch_7 : decode b_Calls_latestCatch 7 = .ok (.iload_n 1, 1) := by decide +kernel
theorem d_Calls_latestCatch_8 : decode b_Calls_latestCatch 8 = .ok (.ifCond .lt 21, 3) := by decide +kernel
theorem d_Calls_latestCatch_29 : decode b_Calls_latestCatch 29 = .ok (.iconst (-1), 1) := by decide +kernel
theorem d_Calls_latestCatch_30 : decode b_Calls_latestCatch 30 = .ok (.ireturn, 1) := by decide +kernel
theorem d_Calls_latestCatch_11 : decode b_Calls_latestCatch 11 = .ok (.aload_n 0, 1) := by decide +kernel
theorem d_Calls_latestCatch_12 : decode b_Calls_latestCatch 12 = .ok (.getfield 11, 3) := by decide +kernel
theorem d_Calls_latestCatch_15 : decode b_Calls_latestCatch 15 = .ok (.iload_n 1, 1) := by decide +kernel
theorem d_Calls_latestCatch_16 : decode b_Calls_latestCatch 16 = .ok (.iaload, 1) := by decide +kernel
theorem d_Calls_latestCatch_17 : decode b_Calls_latestCatch 17 = .ok (.iconst (-1), 1) := by decide +kernel
theorem d_Calls_latestCatch_18 : decode b_Calls_latestCatch 18 = .ok (.if_icmp .ne 5, 3) := by decide +kernel
theorem d_Calls_latestCatch_23 : decode b_Calls_latestCatch 23 = .ok (.iinc 1 (-1), 3) := by decide +kernel
theorem d_Calls_latestCatch_26 : decode b_Calls_latestCatch 26 = .ok (.goto (-19), 3) := by decide +kernel
theorem d_Calls_latestCatch_21 : decode b_Calls_latestCatch 21 = .ok (.iload_n 1, 1) := by decide +kernel
theorem d_Calls_latestCatch_22 : decode b_Calls_latestCatch 22 = .ok (.ireturn, 1) := by decide +kernel
theorem d_Calls_returnsAt_0 : decode b_Calls_returnsAt 0 = .ok (.iload_n 1, 1) := by decide +kernel
theorem d_Calls_returnsAt_1 : decode b_Calls_returnsAt 1 = .ok (.ifCond .lt 20, 3) := by decide +kernel
theorem d_Calls_returnsAt_21 : decode b_Calls_returnsAt 21 = .ok (.iconst 0, 1) := by decide +kernel
theorem d_Calls_returnsAt_22 : decode b_Calls_returnsAt 22 = .ok (.ireturn, 1) := by decide +kernel
theorem d_Calls_returnsAt_4 : decode b_Calls_returnsAt 4 = .ok (.iload_n 1, 1) := by decide +kernel
theorem d_Calls_returnsAt_5 : decode b_Calls_returnsAt 5 = .ok (.aload_n 0, 1) := by decide +kernel
theorem d_Calls_returnsAt_6 : decode b_Calls_returnsAt 6 = .ok (.getfield 24, 3) := by decide +kernel
theorem d_Calls_returnsAt_9 : decode b_Calls_returnsAt 9 = .ok (.if_icmp .ge 12, 3) := by decide +kernel
theorem d_Calls_returnsAt_12 : decode b_Calls_returnsAt 12 = .ok (.aload_n 0, 1) := by decide +kernel
theorem d_Calls_returnsAt_13 : decode b_Calls_returnsAt 13 = .ok (.getfield 18, 3) := by decide +kernel
theorem d_Calls_returnsAt_16 : decode b_Calls_returnsAt 16 = .ok (.iload_n 1, 1) := by decide +kernel
theorem d_Calls_returnsAt_17 : decode b_Calls_returnsAt 17 = .ok (.iaload, 1) := by decide +kernel
theorem d_Calls_returnsAt_18 : decode b_Calls_returnsAt 18 = .ok (.goto 4, 3) := by decide +kernel
theorem d_Calls_dataAt_0 : decode b_Calls_dataAt 0 = .ok (.iload_n 1, 1) := by decide +kernel
theorem d_Calls_dataAt_1 : decode b_Calls_dataAt 1 = .ok (.ifCond .lt 20, 3) := by decide +kernel
theorem d_Calls_dataAt_21 : decode b_Calls_dataAt 21 = .ok (.iconst 0, 1) := by decide +kernel
theorem d_Calls_dataAt_22 : decode b_Calls_dataAt 22 = .ok (.ireturn, 1) := by decide +kernel
theorem d_Calls_dataAt_4 : decode b_Calls_dataAt 4 = .ok (.iload_n 1, 1) := by decide +kernel
theorem d_Calls_dataAt_5 : decode b_Calls_dataAt 5 = .ok (.aload_n 0, 1) := by decide +kernel
theorem d_Calls_dataAt_6 : decode b_Calls_dataAt 6 = .ok (.getfield 24, 3) := by decide +kernel
theorem d_Calls_dataAt_9 : decode b_Calls_dataAt 9 = .ok (.if_icmp .ge 12, 3) := by decide +kernel
theorem d_Calls_dataAt_12 : decode b_Calls_dataAt 12 = .ok (.aload_n 0, 1) := by decide +kernel
theorem d_Calls_dataAt_13 : decode b_Calls_dataAt 13 = .ok (.getfield 21, 3) := by decide +kernel
theorem d_Calls_dataAt_16 : decode b_Calls_dataAt 16 = .ok (.iload_n 1, 1) := by decide +kernel
theorem d_Calls_dataAt_17 : decode b_Calls_dataAt 17 = .ok (.iaload, 1) := by decide +kernel
theorem d_Calls_dataAt_18 : decode b_Calls_dataAt 18 = .ok (.goto 4, 3) := by decide +kernel
/-- the picture of ColonMachine$Calls.size -/
def F_Calls_size (n : Int32) : Int32 := n
theorem F_Calls_size_e (n : Int32) : F_Calls_size n = n := rfl
set_option maxHeartbeats 4000000 in
set_option maxRecDepth 100000 in
theorem c_Calls_size (l : Launch) (D : va_G) (cI : ClassId) (sz : Nat) (h : Nat) (ao : Nat) (ap : Nat) (ar : Nat) (ad : Nat) (n : Int32) (hi : CallsOk n) : Met l y_Calls_size w_Calls_size ({ frames := 0, cells := 0, slots := 0, locals := 0 }) (va_Pc [.ref h] (zP D classes (TY cI) [(h, .inr (0, [.ref ao, .ref ap, .ref ar, .ref ad, .int n]))] sz)) (va_Qi (fun (r : Int32) (_ : Unit) => r = F_Calls_size n ∧ (True)) (fun _ => zB D classes (TY cI) (va_A [(h, .inr (0, [.ref ao, .ref ap, .ref ar, .ref ad, .int n]))] sz) [(h, .inr (0, [.ref ao, .ref ap, .ref ar, .ref ad, .int n]))]) (va_A [(h, .inr (0, [.ref ao, .ref ap, .ref ar, .ref ad, .int n]))] sz)) 0 0 (va_A [(h, .inr (0, [.ref ao, .ref ap, .ref ar, .ref ad, .int n]))] sz) := by
  refine Met.ofW (cc := b_Calls_size) (maxL := 1) (ret := (some .int)) (by decide) rfl ?_
  intro p e s m args below meth c s₁ B hml hv
  obtain ⟨rfl, hsz, hP, hK, hD0⟩ := hv
  have hx := B.exec
  have hb := B.bytes
  have hr := B.returns
  have hts := atoms_spec (ws := w_Calls_size) B.pre
  have hT : ∀ w ∈ TB, w.before _ s = true := fun w h => hts w (List.mem_cons_of_mem _ h)
  have hown : s.vm.findClass "ColonMachine$Calls" = some m.cls := findClass_of_methodNamed B.named
  have hlocks := B.notSynchronized
  subst hsz
  have hD := hD0.self (sz := s.heap.size)
  generalize hAe : va_A [(h, .inr (0, [.ref ao, .ref ap, .ref ar, .ref ad, .int n]))] s.heap.size = A at hD ⊢
  have hA : ∀ q : Nat, s.heap.size ≤ q → A q := fun q h => by rw [← hAe]; exact Or.inr h
  have hS : va_S A s.heap s.heap [] := va_S.rf
  have hl := lv_entry [.ref h] (n := 1) (Nat.le_of_ble_eq_true rfl)
  rw [lg_entry_eq]
  generalize (lg_sl [.ref h] ++ List.replicate (1 - (lg_sl [.ref h]).length) Slot.unset).toArray = ls at hl ⊢
  have hl : lv_has ls 1 [(0, .ref h)] := hl
  have hF := F_Calls_size_e n
  refine lv_aload_n hx hb d_Calls_size_0 rfl (lv_at hl 0 rfl) ?_
  refine va_get (D := D) (v := .int n) (C := "ColonMachine$Calls") (T := T_Calls) (N := 5) hx hb hT i_Calls hown hK hP 0 rfl rfl 4 (by decide) (hT _ fl_Calls_24) (fun _ h9 => h9) rfl d_Calls_size_1 ?_
  exact W.iret (v := n) hx hb hr (fun t ht hW => ⟨⟨_, (), rfl, ⟨hF.symm, trivial⟩, ⟨by rw [ht]; exact hP, va_K.moved hW.alike hK, hD⟩⟩, hS.F ht⟩) hS.2.2 d_Calls_size_4
/-- the picture of ColonMachine$Calls.isEmpty -/
def F_Calls_isEmpty (n : Int32) : Int32 := if n = 0 then 1 else 0
theorem F_Calls_isEmpty_e (n : Int32) : F_Calls_isEmpty n = if n = 0 then 1 else 0 := rfl
set_option maxHeartbeats 4000000 in
set_option maxRecDepth 100000 in
theorem c_Calls_isEmpty (l : Launch) (D : va_G) (cI : ClassId) (sz : Nat) (h : Nat) (ao : Nat) (ap : Nat) (ar : Nat) (ad : Nat) (n : Int32) (hi : CallsOk n) : Met l y_Calls_isEmpty w_Calls_isEmpty ({ frames := 0, cells := 0, slots := 0, locals := 0 }) (va_Pc [.ref h] (zP D classes (TY cI) [(h, .inr (0, [.ref ao, .ref ap, .ref ar, .ref ad, .int n]))] sz)) (va_Qi (fun (r : Int32) (_ : Unit) => r = F_Calls_isEmpty n ∧ ((r = 0 ∨ r = 1))) (fun _ => zB D classes (TY cI) (va_A [(h, .inr (0, [.ref ao, .ref ap, .ref ar, .ref ad, .int n]))] sz) [(h, .inr (0, [.ref ao, .ref ap, .ref ar, .ref ad, .int n]))]) (va_A [(h, .inr (0, [.ref ao, .ref ap, .ref ar, .ref ad, .int n]))] sz)) 0 0 (va_A [(h, .inr (0, [.ref ao, .ref ap, .ref ar, .ref ad, .int n]))] sz) := by
  refine Met.ofW (cc := b_Calls_isEmpty) (maxL := 1) (ret := (some .boolean)) (by decide) rfl ?_
  intro p e s m args below meth c s₁ B hml hv
  obtain ⟨rfl, hsz, hP, hK, hD0⟩ := hv
  have hx := B.exec
  have hb := B.bytes
  have hr := B.returns
  have hts := atoms_spec (ws := w_Calls_isEmpty) B.pre
  have hT : ∀ w ∈ TB, w.before _ s = true := fun w h => hts w (List.mem_cons_of_mem _ h)
  have hown : s.vm.findClass "ColonMachine$Calls" = some m.cls := findClass_of_methodNamed B.named
  have hlocks := B.notSynchronized
  subst hsz
  have hD := hD0.self (sz := s.heap.size)
  generalize hAe : va_A [(h, .inr (0, [.ref ao, .ref ap, .ref ar, .ref ad, .int n]))] s.heap.size = A at hD ⊢
  have hA : ∀ q : Nat, s.heap.size ≤ q → A q := fun q h => by rw [← hAe]; exact Or.inr h
  have hS : va_S A s.heap s.heap [] := va_S.rf
  have hl := lv_entry [.ref h] (n := 1) (Nat.le_of_ble_eq_true rfl)
  rw [lg_entry_eq]
  generalize (lg_sl [.ref h] ++ List.replicate (1 - (lg_sl [.ref h]).length) Slot.unset).toArray = ls at hl ⊢
  have hl : lv_has ls 1 [(0, .ref h)] := hl
  have hF := F_Calls_isEmpty_e n
  refine lv_aload_n hx hb d_Calls_isEmpty_0 rfl (lv_at hl 0 rfl) ?_
  refine va_get (D := D) (v := .int n) (C := "ColonMachine$Calls") (T := T_Calls) (N := 5) hx hb hT i_Calls hown hK hP 0 rfl rfl 4 (by decide) (hT _ fl_Calls_24) (fun _ h9 => h9) rfl d_Calls_isEmpty_1 ?_
  refine lv_if_ne (tgt := 11) hx hb d_Calls_isEmpty_4 (by decide) (fun c1 => ?_) (fun c1 => ?_)
  · have hF := hF.trans (if_neg c1)
    refine lv_iconst (v := 0) hx hb d_Calls_isEmpty_11 (by decide) ?_
    exact W.zret (v := 0) hx hb hr rfl (fun t ht hW => ⟨⟨_, (), rfl, ⟨hF.symm, (Or.inl rfl)⟩, ⟨by rw [ht]; exact hP, va_K.moved hW.alike hK, hD⟩⟩, hS.F ht⟩) hS.2.2 d_Calls_isEmpty_12
  · have hF := hF.trans (if_pos c1)
    refine lv_iconst (v := 1) hx hb d_Calls_isEmpty_7 (by decide) ?_
    refine lv_goto (tgt := 12) hx hb d_Calls_isEmpty_8 (by decide) ?_
    exact W.zret (v := 1) hx hb hr rfl (fun t ht hW => ⟨⟨_, (), rfl, ⟨hF.symm, (Or.inr rfl)⟩, ⟨by rw [ht]; exact hP, va_K.moved hW.alike hK, hD⟩⟩, hS.F ht⟩) hS.2.2 d_Calls_isEmpty_12
/-- the picture of ColonMachine$Calls.isFull -/
def F_Calls_isFull (n : Int32) : Int32 := if n < 40 then 0 else 1
theorem F_Calls_isFull_e (n : Int32) : F_Calls_isFull n = if n < 40 then 0 else 1 := rfl
set_option maxHeartbeats 4000000 in
set_option maxRecDepth 100000 in
theorem c_Calls_isFull (l : Launch) (D : va_G) (cI : ClassId) (sz : Nat) (h : Nat) (ao : Nat) (ap : Nat) (ar : Nat) (ad : Nat) (n : Int32) (hi : CallsOk n) : Met l y_Calls_isFull w_Calls_isFull ({ frames := 0, cells := 0, slots := 0, locals := 0 }) (va_Pc [.ref h] (zP D classes (TY cI) [(h, .inr (0, [.ref ao, .ref ap, .ref ar, .ref ad, .int n]))] sz)) (va_Qi (fun (r : Int32) (_ : Unit) => r = F_Calls_isFull n ∧ ((r = 0 ∨ r = 1))) (fun _ => zB D classes (TY cI) (va_A [(h, .inr (0, [.ref ao, .ref ap, .ref ar, .ref ad, .int n]))] sz) [(h, .inr (0, [.ref ao, .ref ap, .ref ar, .ref ad, .int n]))]) (va_A [(h, .inr (0, [.ref ao, .ref ap, .ref ar, .ref ad, .int n]))] sz)) 0 0 (va_A [(h, .inr (0, [.ref ao, .ref ap, .ref ar, .ref ad, .int n]))] sz) := by
  refine Met.ofW (cc := b_Calls_isFull) (maxL := 1) (ret := (some .boolean)) (by decide) rfl ?_
  intro p e s m args below meth c s₁ B hml hv
  obtain ⟨rfl, hsz, hP, hK, hD0⟩ := hv
  have hx := B.exec
  have hb := B.bytes
  have hr := B.returns
  have hts := atoms_spec (ws := w_Calls_isFull) B.pre
  have hT : ∀ w ∈ TB, w.before _ s = true := fun w h => hts w (List.mem_cons_of_mem _ h)
  have hown : s.vm.findClass "ColonMachine$Calls" = some m.cls := findClass_of_methodNamed B.named
  have hlocks := B.notSynchronized
  subst hsz
  have hD := hD0.self (sz := s.heap.size)
  generalize hAe : va_A [(h, .inr (0, [.ref ao, .ref ap, .ref ar, .ref ad, .int n]))] s.heap.size = A at hD ⊢
  have hA : ∀ q : Nat, s.heap.size ≤ q → A q := fun q h => by rw [← hAe]; exact Or.inr h
  have hS : va_S A s.heap s.heap [] := va_S.rf
  have hl := lv_entry [.ref h] (n := 1) (Nat.le_of_ble_eq_true rfl)
  rw [lg_entry_eq]
  generalize (lg_sl [.ref h] ++ List.replicate (1 - (lg_sl [.ref h]).length) Slot.unset).toArray = ls at hl ⊢
  have hl : lv_has ls 1 [(0, .ref h)] := hl
  have hF := F_Calls_isFull_e n
  refine lv_aload_n hx hb d_Calls_isFull_0 rfl (lv_at hl 0 rfl) ?_
  refine va_get (D := D) (v := .int n) (C := "ColonMachine$Calls") (T := T_Calls) (N := 5) hx hb hT i_Calls hown hK hP 0 rfl rfl 4 (by decide) (hT _ fl_Calls_24) (fun _ h9 => h9) rfl d_Calls_isFull_1 ?_
  refine lv_bipush (v := 40) hx hb d_Calls_isFull_4 (by decide) ?_
  refine lv_icmp_lt (tgt := 13) hx hb d_Calls_isFull_6 (by decide) (fun c1 => ?_) (fun c1 => ?_)
  · have hF := hF.trans (if_pos c1)
    refine lv_iconst (v := 0) hx hb d_Calls_isFull_13 (by decide) ?_
    exact W.zret (v := 0) hx hb hr rfl (fun t ht hW => ⟨⟨_, (), rfl, ⟨hF.symm, (Or.inl rfl)⟩, ⟨by rw [ht]; exact hP, va_K.moved hW.alike hK, hD⟩⟩, hS.F ht⟩) hS.2.2 d_Calls_isFull_14
  · have hF := hF.trans (if_neg c1)
    refine lv_iconst (v := 1) hx hb d_Calls_isFull_9 (by decide) ?_
    refine lv_goto (tgt := 14) hx hb d_Calls_isFull_10 (by decide) ?_
    exact W.zret (v := 1) hx hb hr rfl (fun t ht hW => ⟨⟨_, (), rfl, ⟨hF.symm, (Or.inr rfl)⟩, ⟨by rw [ht]; exact hP, va_K.moved hW.alike hK, hD⟩⟩, hS.F ht⟩) hS.2.2 d_Calls_isFull_14
/-- the picture of ColonMachine$Calls.add -/
def F_Calls_add (n : Int32) (fo : Nat → Int32) (fp : Nat → Int32) (fr : Nat → Int32) (fd : Nat → Int32) (x1 : Int32) (x2 : Int32) (x3 : Int32) (x4 : Int32) : Int32 × (Nat → Int32) × (Nat → Int32) × (Nat → Int32) × (Nat → Int32) := if 40 ≤ n then (n, fo, fp, fr, fd) else (n + 1, upd fo n.toNatClampNeg x1, upd fp n.toNatClampNeg x2, upd fr n.toNatClampNeg x3, upd fd n.toNatClampNeg x4)
theorem F_Calls_add_e (n : Int32) (fo : Nat → Int32) (fp : Nat → Int32) (fr : Nat → Int32) (fd : Nat → Int32) (x1 : Int32) (x2 : Int32) (x3 : Int32) (x4 : Int32) : F_Calls_add n fo fp fr fd x1 x2 x3 x4 = if 40 ≤ n then (n, fo, fp, fr, fd) else (n + 1, upd fo n.toNatClampNeg x1, upd fp n.toNatClampNeg x2, upd fr n.toNatClampNeg x3, upd fd n.toNatClampNeg x4) := rfl
set_option maxHeartbeats 4000000 in
set_option maxRecDepth 100000 in
theorem c_Calls_add (l : Launch) (D : va_G) (cI : ClassId) (sz : Nat) (h : Nat) (ao : Nat) (ap : Nat) (ar : Nat) (ad : Nat) (n : Int32) (fo : Nat → Int32) (fp : Nat → Int32) (fr : Nat → Int32) (fd : Nat → Int32) (x1 : Int32) (x2 : Int32) (x3 : Int32) (x4 : Int32) (hi : CallsOk n) : Met l y_Calls_add w_Calls_add ({ frames := 0, cells := 0, slots := 0, locals := 0 }) (va_Pc [.ref h, .int x1, .int x2, .int x3, .int x4] (zP D classes (TY cI) [(h, .inr (0, [.ref ao, .ref ap, .ref ar, .ref ad, .int n])), (ao, .inl (cI, 40, .inl fo)), (ap, .inl (cI, 40, .inl fp)), (ar, .inl (cI, 40, .inl fr)), (ad, .inl (cI, 40, .inl fd))] sz)) (va_Qv (fun u : Int32 × (Nat → Int32) × (Nat → Int32) × (Nat → Int32) × (Nat → Int32) => u = F_Calls_add n fo fp fr fd x1 x2 x3 x4 ∧ ((CallsOk u.1))) (fun u => zB D classes (TY cI) (va_A [(h, .inr (0, [.ref ao, .ref ap, .ref ar, .ref ad, .int n])), (ao, .inl (cI, 40, .inl fo)), (ap, .inl (cI, 40, .inl fp)), (ar, .inl (cI, 40, .inl fr)), (ad, .inl (cI, 40, .inl fd))] sz) [(h, .inr (0, [.ref ao, .ref ap, .ref ar, .ref ad, .int u.1])), (ao, .inl (cI, 40, .inl u.2.1)), (ap, .inl (cI, 40, .inl u.2.2.1)), (ar, .inl (cI, 40, .inl u.2.2.2.1)), (ad, .inl (cI, 40, .inl u.2.2.2.2))]) (va_A [(h, .inr (0, [.ref ao, .ref ap, .ref ar, .ref ad, .int n])), (ao, .inl (cI, 40, .inl fo)), (ap, .inl (cI, 40, .inl fp)), (ar, .inl (cI, 40, .inl fr)), (ad, .inl (cI, 40, .inl fd))] sz)) 0 0 (va_A [(h, .inr (0, [.ref ao, .ref ap, .ref ar, .ref ad, .int n])), (ao, .inl (cI, 40, .inl fo)), (ap, .inl (cI, 40, .inl fp)), (ar, .inl (cI, 40, .inl fr)), (ad, .inl (cI, 40, .inl fd))] sz) := by
  refine Met.ofW (cc := b_Calls_add) (maxL := 5) (ret := none) (by decide) rfl ?_
  intro p e s m args below meth c s₁ B hml hv
  obtain ⟨rfl, hsz, hP, hK, hD0⟩ := hv
  have hx := B.exec
  have hb := B.bytes
  have hr := B.returns
  have hts := atoms_spec (ws := w_Calls_add) B.pre
  have hT : ∀ w ∈ TB, w.before _ s = true := fun w h => hts w (List.mem_cons_of_mem _ h)
  have hown : s.vm.findClass "ColonMachine$Calls" = some m.cls := findClass_of_methodNamed B.named
  have hlocks := B.notSynchronized
  subst hsz
  have hD := hD0.self (sz := s.heap.size)
  generalize hAe : va_A [(h, .inr (0, [.ref ao, .ref ap, .ref ar, .ref ad, .int n])), (ao, .inl (cI, 40, .inl fo)), (ap, .inl (cI, 40, .inl fp)), (ar, .inl (cI, 40, .inl fr)), (ad, .inl (cI, 40, .inl fd))] s.heap.size = A at hD ⊢
  have hA : ∀ q : Nat, s.heap.size ≤ q → A q := fun q h => by rw [← hAe]; exact Or.inr h
  have hS : va_S A s.heap s.heap [] := va_S.rf
  have hl := lv_entry [.ref h, .int x1, .int x2, .int x3, .int x4] (n := 5) (Nat.le_of_ble_eq_true rfl)
  rw [lg_entry_eq]
  generalize (lg_sl [.ref h, .int x1, .int x2, .int x3, .int x4] ++ List.replicate (5 - (lg_sl [.ref h, .int x1, .int x2, .int x3, .int x4]).length) Slot.unset).toArray = ls at hl ⊢
  have hl : lv_has ls 5 [(0, .ref h), (1, .int x1), (2, .int x2), (3, .int x3), (4, .int x4)] := hl
  have hF := F_Calls_add_e n fo fp fr fd x1 x2 x3 x4
  refine lv_aload_n hx hb d_Calls_add_0 rfl (lv_at hl 0 rfl) ?_
  refine va_get (D := D) (v := .int n) (C := "ColonMachine$Calls") (T := T_Calls) (N := 5) hx hb hT i_Calls hown hK hP 0 rfl rfl 4 (by decide) (hT _ fl_Calls_24) (fun _ h9 => h9) rfl d_Calls_add_1 ?_
  refine lv_bipush (v := 40) hx hb d_Calls_add_4 (by decide) ?_
  refine lv_icmp_ge (tgt := 60) hx hb d_Calls_add_6 (by decide) (fun c1 => ?_) (fun c1 => ?_)
  · have hF := hF.trans (if_pos c1)
    exact W.vret hx hb hr (fun t ht hW => ⟨⟨_, rfl, ⟨hF.symm, hi⟩, ⟨by rw [ht]; exact hP, va_K.moved hW.alike hK, hD⟩⟩, hS.F ht⟩) hS.2.2 d_Calls_add_60
  · have hF := hF.trans (if_neg c1)
    refine lv_aload_n hx hb d_Calls_add_9 rfl (lv_at hl 0 rfl) ?_
    refine va_get (D := D) (v := .ref ao) (C := "ColonMachine$Calls") (T := T_Calls) (N := 5) hx hb hT i_Calls hown hK hP 0 rfl rfl 0 (by decide) (hT _ fl_Calls_11) (fun _ h9 => h9) rfl d_Calls_add_10 ?_
    refine lv_aload_n hx hb d_Calls_add_13 rfl (lv_at hl 0 rfl) ?_
    refine va_get (D := D) (v := .int n) (C := "ColonMachine$Calls") (T := T_Calls) (N := 5) hx hb hT i_Calls hown hK hP 0 rfl rfl 4 (by decide) (hT _ fl_Calls_24) (fun _ h9 => h9) rfl d_Calls_add_14 ?_
    refine lv_iload_n hx hb d_Calls_add_17 rfl (lv_at hl 1 rfl) ?_
    refine va_iast hx hb hK hP hD hS 1 0 rfl rfl (by have := ti_lo n; have := ti_hi n; have : Int32.toInt 40 = 40 := rfl; rw [vp_in_iff]; simp only [CellsOk, CallsOk, TextOk, MemOk, OutOk, Int32.lt_iff_toInt_lt, Int32.le_iff_toInt_le, ← Int32.toInt_inj, Int32.toInt_add, Int32.toInt_sub, Int32.toInt_mul, Int32.toInt_neg, zbm, zbm'] at c1 hi ⊢; omega) d_Calls_add_18 (fun H locs hP hD hS => ?_)
    have hP : va_P D classes [(h, .inr (0, [.ref ao, .ref ap, .ref ar, .ref ad, .int n])), (ao, .inl (cI, 40, .inl (upd fo n.toNatClampNeg x1))), (ap, .inl (cI, 40, .inl fp)), (ar, .inl (cI, 40, .inl fr)), (ad, .inl (cI, 40, .inl fd))] H := hP
    have hD : va_D A [(h, .inr (0, [.ref ao, .ref ap, .ref ar, .ref ad, .int n])), (ao, .inl (cI, 40, .inl (upd fo n.toNatClampNeg x1))), (ap, .inl (cI, 40, .inl fp)), (ar, .inl (cI, 40, .inl fr)), (ad, .inl (cI, 40, .inl fd))] := hD
    refine lv_aload_n hx hb d_Calls_add_19 rfl (lv_at hl 0 rfl) ?_
    refine va_get (D := D) (v := .ref ap) (C := "ColonMachine$Calls") (T := T_Calls) (N := 5) hx hb hT i_Calls hown hK hP 0 rfl rfl 1 (by decide) (hT _ fl_Calls_15) (fun _ h9 => h9) rfl d_Calls_add_20 ?_
    refine lv_aload_n hx hb d_Calls_add_23 rfl (lv_at hl 0 rfl) ?_
    refine va_get (D := D) (v := .int n) (C := "ColonMachine$Calls") (T := T_Calls) (N := 5) hx hb hT i_Calls hown hK hP 0 rfl rfl 4 (by decide) (hT _ fl_Calls_24) (fun _ h9 => h9) rfl d_Calls_add_24 ?_
    refine lv_iload_n hx hb d_Calls_add_27 rfl (lv_at hl 2 rfl) ?_
    refine va_iast hx hb hK hP hD hS 2 0 rfl rfl (by have := ti_lo n; have := ti_hi n; have : Int32.toInt 40 = 40 := rfl; rw [vp_in_iff]; simp only [CellsOk, CallsOk, TextOk, MemOk, OutOk, Int32.lt_iff_toInt_lt, Int32.le_iff_toInt_le, ← Int32.toInt_inj, Int32.toInt_add, Int32.toInt_sub, Int32.toInt_mul, Int32.toInt_neg, zbm, zbm'] at c1 hi ⊢; omega) d_Calls_add_28 (fun H locs hP hD hS => ?_)
    have hP : va_P D classes [(h, .inr (0, [.ref ao, .ref ap, .ref ar, .ref ad, .int n])), (ao, .inl (cI, 40, .inl (upd fo n.toNatClampNeg x1))), (ap, .inl (cI, 40, .inl (upd fp n.toNatClampNeg x2))), (ar, .inl (cI, 40, .inl fr)), (ad, .inl (cI, 40, .inl fd))] H := hP
    have hD : va_D A [(h, .inr (0, [.ref ao, .ref ap, .ref ar, .ref ad, .int n])), (ao, .inl (cI, 40, .inl (upd fo n.toNatClampNeg x1))), (ap, .inl (cI, 40, .inl (upd fp n.toNatClampNeg x2))), (ar, .inl (cI, 40, .inl fr)), (ad, .inl (cI, 40, .inl fd))] := hD
    refine lv_aload_n hx hb d_Calls_add_29 rfl (lv_at hl 0 rfl) ?_
    refine va_get (D := D) (v := .ref ar) (C := "ColonMachine$Calls") (T := T_Calls) (N := 5) hx hb hT i_Calls hown hK hP 0 rfl rfl 2 (by decide) (hT _ fl_Calls_18) (fun _ h9 => h9) rfl d_Calls_add_30 ?_
    refine lv_aload_n hx hb d_Calls_add_33 rfl (lv_at hl 0 rfl) ?_
    refine va_get (D := D) (v := .int n) (C := "ColonMachine$Calls") (T := T_Calls) (N := 5) hx hb hT i_Calls hown hK hP 0 rfl rfl 4 (by decide) (hT _ fl_Calls_24) (fun _ h9 => h9) rfl d_Calls_add_34 ?_
    refine lv_iload_n hx hb d_Calls_add_37 rfl (lv_at hl 3 rfl) ?_
    refine va_iast hx hb hK hP hD hS 3 0 rfl rfl (by have := ti_lo n; have := ti_hi n; have : Int32.toInt 40 = 40 := rfl; rw [vp_in_iff]; simp only [CellsOk, CallsOk, TextOk, MemOk, OutOk, Int32.lt_iff_toInt_lt, Int32.le_iff_toInt_le, ← Int32.toInt_inj, Int32.toInt_add, Int32.toInt_sub, Int32.toInt_mul, Int32.toInt_neg, zbm, zbm'] at c1 hi ⊢; omega) d_Calls_add_38 (fun H locs hP hD hS => ?_)
    have hP : va_P D classes [(h, .inr (0, [.ref ao, .ref ap, .ref ar, .ref ad, .int n])), (ao, .inl (cI, 40, .inl (upd fo n.toNatClampNeg x1))), (ap, .inl (cI, 40, .inl (upd fp n.toNatClampNeg x2))), (ar, .inl (cI, 40, .inl (upd fr n.toNatClampNeg x3))), (ad, .inl (cI, 40, .inl fd))] H := hP
    have hD : va_D A [(h, .inr (0, [.ref ao, .ref ap, .ref ar, .ref ad, .int n])), (ao, .inl (cI, 40, .inl (upd fo n.toNatClampNeg x1))), (ap, .inl (cI, 40, .inl (upd fp n.toNatClampNeg x2))), (ar, .inl (cI, 40, .inl (upd fr n.toNatClampNeg x3))), (ad, .inl (cI, 40, .inl fd))] := hD
    refine lv_aload_n hx hb d_Calls_add_39 rfl (lv_at hl 0 rfl) ?_
    refine va_get (D := D) (v := .ref ad) (C := "ColonMachine$Calls") (T := T_Calls) (N := 5) hx hb hT i_Calls hown hK hP 0 rfl rfl 3 (by decide) (hT _ fl_Calls_21) (fun _ h9 => h9) rfl d_Calls_add_40 ?_
    refine lv_aload_n hx hb d_Calls_add_43 rfl (lv_at hl 0 rfl) ?_
    refine va_get (D := D) (v := .int n) (C := "ColonMachine$Calls") (T := T_Calls) (N := 5) hx hb hT i_Calls hown hK hP 0 rfl rfl 4 (by decide) (hT _ fl_Calls_24) (fun _ h9 => h9) rfl d_Calls_add_44 ?_
    refine lv_iload hx hb d_Calls_add_47 (lv_at hl 4 rfl) ?_
    refine va_iast hx hb hK hP hD hS 4 0 rfl rfl (by have := ti_lo n; have := ti_hi n; have : Int32.toInt 40 = 40 := rfl; rw [vp_in_iff]; simp only [CellsOk, CallsOk, TextOk, MemOk, OutOk, Int32.lt_iff_toInt_lt, Int32.le_iff_toInt_le, ← Int32.toInt_inj, Int32.toInt_add, Int32.toInt_sub, Int32.toInt_mul, Int32.toInt_neg, zbm, zbm'] at c1 hi ⊢; omega) d_Calls_add_49 (fun H locs hP hD hS => ?_)
    have hP : va_P D classes [(h, .inr (0, [.ref ao, .ref ap, .ref ar, .ref ad, .int n])), (ao, .inl (cI, 40, .inl (upd fo n.toNatClampNeg x1))), (ap, .inl (cI, 40, .inl (upd fp n.toNatClampNeg x2))), (ar, .inl (cI, 40, .inl (upd fr n.toNatClampNeg x3))), (ad, .inl (cI, 40, .inl (upd fd n.toNatClampNeg x4)))] H := hP
    have hD : va_D A [(h, .inr (0, [.ref ao, .ref ap, .ref ar, .ref ad, .int n])), (ao, .inl (cI, 40, .inl (upd fo n.toNatClampNeg x1))), (ap, .inl (cI, 40, .inl (upd fp n.toNatClampNeg x2))), (ar, .inl (cI, 40, .inl (upd fr n.toNatClampNeg x3))), (ad, .inl (cI, 40, .inl (upd fd n.toNatClampNeg x4)))] := hD
    refine lv_aload_n hx hb d_Calls_add_50 rfl (lv_at hl 0 rfl) ?_
    refine lv_dup hx hb d_Calls_add_51 rfl ?_
    refine va_get (D := D) (v := .int n) (C := "ColonMachine$Calls") (T := T_Calls) (N := 5) hx hb hT i_Calls hown hK hP 0 rfl rfl 4 (by decide) (hT _ fl_Calls_24) (fun _ h9 => h9) rfl d_Calls_add_52 ?_
    refine lv_iconst (v := 1) hx hb d_Calls_add_55 (by decide) ?_
    refine lv_iadd hx hb d_Calls_add_56 ?_
    refine va_put (D := D) (v := .int (n + 1)) (ty := .int) (C := "ColonMachine$Calls") (T := T_Calls) (N := 5) hx hb hT i_Calls t_Calls tk_Calls n_Calls hown hK hP hD hS 0 rfl rfl 4 (by decide) (hT _ fl_Calls_24) (fun _ h9 => h9) rfl (by decide +kernel) rfl rfl (Nat.le_of_ble_eq_true rfl) d_Calls_add_57 (fun H locs hP hD hS => ?_)
    have hP : va_P D classes [(h, .inr (0, [.ref ao, .ref ap, .ref ar, .ref ad, .int (n + 1)])), (ao, .inl (cI, 40, .inl (upd fo n.toNatClampNeg x1))), (ap, .inl (cI, 40, .inl (upd fp n.toNatClampNeg x2))), (ar, .inl (cI, 40, .inl (upd fr n.toNatClampNeg x3))), (ad, .inl (cI, 40, .inl (upd fd n.toNatClampNeg x4)))] H := hP
    have hD : va_D A [(h, .inr (0, [.ref ao, .ref ap, .ref ar, .ref ad, .int (n + 1)])), (ao, .inl (cI, 40, .inl (upd fo n.toNatClampNeg x1))), (ap, .inl (cI, 40, .inl (upd fp n.toNatClampNeg x2))), (ar, .inl (cI, 40, .inl (upd fr n.toNatClampNeg x3))), (ad, .inl (cI, 40, .inl (upd fd n.toNatClampNeg x4)))] := hD
    exact W.vret hx hb hr (fun t ht hW => ⟨⟨_, rfl, ⟨hF.symm, (by have := ti_lo n; have := ti_hi n; have : Int32.toInt 1 = 1 := rfl; have : Int32.toInt 40 = 40 := rfl; simp only [CellsOk, CallsOk, TextOk, MemOk, OutOk, Int32.lt_iff_toInt_lt, Int32.le_iff_toInt_le, ← Int32.toInt_inj, Int32.toInt_add, Int32.toInt_sub, Int32.toInt_mul, Int32.toInt_neg, zbm, zbm'] at c1 hi ⊢; omega)⟩, ⟨by rw [ht]; exact hP, va_K.moved hW.alike hK, hD⟩⟩, hS.F ht⟩) hS.2.2 d_Calls_add_60
/-- the picture of ColonMachine$Calls.begin -/
def F_Calls_begin (n : Int32) (fo : Nat → Int32) (fp : Nat → Int32) (fr : Nat → Int32) (fd : Nat → Int32) (x1 : Int32) (x2 : Int32) (x3 : Int32) : Int32 × (Nat → Int32) × (Nat → Int32) × (Nat → Int32) × (Nat → Int32) := bd (F_Calls_add n fo fp fr fd x1 x2 x3 0) (fun q1 => (q1.1, q1.2.1, q1.2.2.1, q1.2.2.2.1, q1.2.2.2.2))
theorem F_Calls_begin_e (n : Int32) (fo : Nat → Int32) (fp : Nat → Int32) (fr : Nat → Int32) (fd : Nat → Int32) (x1 : Int32) (x2 : Int32) (x3 : Int32) : F_Calls_begin n fo fp fr fd x1 x2 x3 = bd (F_Calls_add n fo fp fr fd x1 x2 x3 0) (fun q1 => (q1.1, q1.2.1, q1.2.2.1, q1.2.2.2.1, q1.2.2.2.2)) := rfl
set_option maxHeartbeats 4000000 in
set_option maxRecDepth 100000 in
theorem c_Calls_begin (l : Launch) (D : va_G) (cI : ClassId) (sz : Nat) (h : Nat) (ao : Nat) (ap : Nat) (ar : Nat) (ad : Nat) (n : Int32) (fo : Nat → Int32) (fp : Nat → Int32) (fr : Nat → Int32) (fd : Nat → Int32) (x1 : Int32) (x2 : Int32) (x3 : Int32) (hi : CallsOk n) : Met l y_Calls_begin w_Calls_begin ({ frames := 1, cells := 0, slots := 0, locals := 24 }) (va_Pc [.ref h, .int x1, .int x2, .int x3] (zP D classes (TY cI) [(h, .inr (0, [.ref ao, .ref ap, .ref ar, .ref ad, .int n])), (ao, .inl (cI, 40, .inl fo)), (ap, .inl (cI, 40, .inl fp)), (ar, .inl (cI, 40, .inl fr)), (ad, .inl (cI, 40, .inl fd))] sz)) (va_Qv (fun u : Int32 × (Nat → Int32) × (Nat → Int32) × (Nat → Int32) × (Nat → Int32) => u = F_Calls_begin n fo fp fr fd x1 x2 x3 ∧ ((CallsOk u.1))) (fun u => zB D classes (TY cI) (va_A [(h, .inr (0, [.ref ao, .ref ap, .ref ar, .ref ad, .int n])), (ao, .inl (cI, 40, .inl fo)), (ap, .inl (cI, 40, .inl fp)), (ar, .inl (cI, 40, .inl fr)), (ad, .inl (cI, 40, .inl fd))] sz) [(h, .inr (0, [.ref ao, .ref ap, .ref ar, .ref ad, .int u.1])), (ao, .inl (cI, 40, .inl u.2.1)), (ap, .inl (cI, 40, .inl u.2.2.1)), (ar, .inl (cI, 40, .inl u.2.2.2.1)), (ad, .inl (cI, 40, .inl u.2.2.2.2))]) (va_A [(h, .inr (0, [.ref ao, .ref ap, .ref ar, .ref ad, .int n])), (ao, .inl (cI, 40, .inl fo)), (ap, .inl (cI, 40, .inl fp)), (ar, .inl (cI, 40, .inl fr)), (ad, .inl (cI, 40, .inl fd))] sz)) 0 0 (va_A [(h, .inr (0, [.ref ao, .ref ap, .ref ar, .ref ad, .int n])), (ao, .inl (cI, 40, .inl fo)), (ap, .inl (cI, 40, .inl fp)), (ar, .inl (cI, 40, .inl fr)), (ad, .inl (cI, 40, .inl fd))] sz) := by
  refine Met.ofW (cc := b_Calls_begin) (maxL := 4) (ret := none) (by decide) rfl ?_
  intro p e s m args below meth c s₁ B hml hv
  obtain ⟨rfl, hsz, hP, hK, hD0⟩ := hv
  have hx := B.exec
  have hb := B.bytes
  have hr := B.returns
  have hts := atoms_spec (ws := w_Calls_begin) B.pre
  have hT : ∀ w ∈ TB, w.before _ s = true := fun w h => hts w (List.mem_cons_of_mem _ h)
  have hown : s.vm.findClass "ColonMachine$Calls" = some m.cls := findClass_of_methodNamed B.named
  have hlocks := B.notSynchronized
  subst hsz
  have hD := hD0.self (sz := s.heap.size)
  generalize hAe : va_A [(h, .inr (0, [.ref ao, .ref ap, .ref ar, .ref ad, .int n])), (ao, .inl (cI, 40, .inl fo)), (ap, .inl (cI, 40, .inl fp)), (ar, .inl (cI, 40, .inl fr)), (ad, .inl (cI, 40, .inl fd))] s.heap.size = A at hD ⊢
  have hA : ∀ q : Nat, s.heap.size ≤ q → A q := fun q h => by rw [← hAe]; exact Or.inr h
  have hS : va_S A s.heap s.heap [] := va_S.rf
  have hl := lv_entry [.ref h, .int x1, .int x2, .int x3] (n := 4) (Nat.le_of_ble_eq_true rfl)
  rw [lg_entry_eq]
  generalize (lg_sl [.ref h, .int x1, .int x2, .int x3] ++ List.replicate (4 - (lg_sl [.ref h, .int x1, .int x2, .int x3]).length) Slot.unset).toArray = ls at hl ⊢
  have hl : lv_has ls 4 [(0, .ref h), (1, .int x1), (2, .int x2), (3, .int x3)] := hl
  have hF := F_Calls_begin_e n fo fp fr fd x1 x2 x3
  refine lv_aload_n hx hb d_Calls_begin_0 rfl (lv_at hl 0 rfl) ?_
  refine lv_iload_n hx hb d_Calls_begin_1 rfl (lv_at hl 1 rfl) ?_
  refine lv_iload_n hx hb d_Calls_begin_2 rfl (lv_at hl 2 rfl) ?_
  refine lv_iload_n hx hb d_Calls_begin_3 rfl (lv_at hl 3 rfl) ?_
  refine lv_iconst (v := 0) hx hb d_Calls_begin_4 (by decide) ?_
  refine kN_sv (wr := []) (fun u : Int32 × (Nat → Int32) × (Nat → Int32) × (Nat → Int32) × (Nat → Int32) => [(h, .inr (0, [.ref ao, .ref ap, .ref ar, .ref ad, .int u.1])), (ao, .inl (cI, 40, .inl u.2.1)), (ap, .inl (cI, 40, .inl u.2.2.1)), (ar, .inl (cI, 40, .inl u.2.2.2.1)), (ad, .inl (cI, 40, .inl u.2.2.2.2))]) (zV (As := [.int x1, .int x2, .int x3, .int 0]) (rest := []) (st0 := [.int 0, .int x3, .int x2, .int x1, .ref h]) ⟨hx, hb, hml, hown, hT⟩ (c_Calls_add l D cI s.heap.size h ao ap ar ad n fo fp fr fd x1 x2 x3 0 hi) (cwV 4 hT (tbV ml_Calls_28 im_Calls_add se_Calls_add in_Calls co_Calls_add) rfl rfl rfl v_Calls_add ⟨Nat.le_of_ble_eq_true rfl, Nat.le_of_ble_eq_true rfl⟩) hK (zPs (ws' := [(h, .inr (0, [.ref ao, .ref ap, .ref ar, .ref ad, .int n])), (ao, .inl (cI, 40, .inl fo)), (ap, .inl (cI, 40, .inl fp)), (ar, .inl (cI, 40, .inl fr)), (ad, .inl (cI, 40, .inl fd))]) hP [0, 1, 2, 3, 4] rfl) (hD.sub (ws' := [(h, .inr (0, [.ref ao, .ref ap, .ref ar, .ref ad, .int n])), (ao, .inl (cI, 40, .inl fo)), (ap, .inl (cI, 40, .inl fp)), (ar, .inl (cI, 40, .inl fr)), (ad, .inl (cI, 40, .inl fd))]) [0, 1, 2, 3, 4] rfl rfl) 0 rfl rfl rfl hl.1 rfl (Nat.le_of_ble_eq_true rfl) d_Calls_begin_5 ⟨Nat.le_of_ble_eq_true rfl, Nat.le_of_ble_eq_true rfl⟩) hP hD hS hA [0, 1, 2, 3, 4] [] rfl rfl rfl (by decide) [0, 1, 2, 3, 4] rfl (fun u => rfl) (fun q1 H locs e1 k1 hP hD hS => ?_)
  have hP : va_P D classes [(h, .inr (0, [.ref ao, .ref ap, .ref ar, .ref ad, .int q1.1])), (ao, .inl (cI, 40, .inl q1.2.1)), (ap, .inl (cI, 40, .inl q1.2.2.1)), (ar, .inl (cI, 40, .inl q1.2.2.2.1)), (ad, .inl (cI, 40, .inl q1.2.2.2.2))] H := hP
  have hD : va_D A [(h, .inr (0, [.ref ao, .ref ap, .ref ar, .ref ad, .int q1.1])), (ao, .inl (cI, 40, .inl q1.2.1)), (ap, .inl (cI, 40, .inl q1.2.2.1)), (ar, .inl (cI, 40, .inl q1.2.2.2.1)), (ad, .inl (cI, 40, .inl q1.2.2.2.2))] := hD
  have hF := hF.trans (bd_e e1)
  exact W.vret hx hb hr (fun t ht hW => ⟨⟨_, rfl, ⟨hF.symm, k1⟩, ⟨by rw [ht]; exact hP, va_K.moved hW.alike hK, hD⟩⟩, hS.F ht⟩) hS.2.2 d_Calls_begin_8
/-- the picture of ColonMachine$Calls.beginCatch -/
def F_Calls_beginCatch (n : Int32) (fo : Nat → Int32) (fp : Nat → Int32) (fr : Nat → Int32) (fd : Nat → Int32) (x1 : Int32) (x2 : Int32) : Int32 × (Nat → Int32) × (Nat → Int32) × (Nat → Int32) × (Nat → Int32) := bd (F_Calls_add n fo fp fr fd (-1) 0 x1 x2) (fun q1 => (q1.1, q1.2.1, q1.2.2.1, q1.2.2.2.1, q1.2.2.2.2))
theorem F_Calls_beginCatch_e (n : Int32) (fo : Nat → Int32) (fp : Nat → Int32) (fr : Nat → Int32) (fd : Nat → Int32) (x1 : Int32) (x2 : Int32) : F_Calls_beginCatch n fo fp fr fd x1 x2 = bd (F_Calls_add n fo fp fr fd (-1) 0 x1 x2) (fun q1 => (q1.1, q1.2.1, q1.2.2.1, q1.2.2.2.1, q1.2.2.2.2)) := rfl
set_option maxHeartbeats 4000000 in
set_option maxRecDepth 100000 in
theorem c_Calls_beginCatch (l : Launch) (D : va_G) (cI : ClassId) (sz : Nat) (h : Nat) (ao : Nat) (ap : Nat) (ar : Nat) (ad : Nat) (n : Int32) (fo : Nat → Int32) (fp : Nat → Int32) (fr : Nat → Int32) (fd : Nat → Int32) (x1 : Int32) (x2 : Int32) (hi : CallsOk n) : Met l y_Calls_beginCatch w_Calls_beginCatch ({ frames := 1, cells := 0, slots := 0, locals := 24 }) (va_Pc [.ref h, .int x1, .int x2] (zP D classes (TY cI) [(h, .inr (0, [.ref ao, .ref ap, .ref ar, .ref ad, .int n])), (ao, .inl (cI, 40, .inl fo)), (ap, .inl (cI, 40, .inl fp)), (ar, .inl (cI, 40, .inl fr)), (ad, .inl (cI, 40, .inl fd))] sz)) (va_Qv (fun u : Int32 × (Nat → Int32) × (Nat → Int32) × (Nat → Int32) × (Nat → Int32) => u = F_Calls_beginCatch n fo fp fr fd x1 x2 ∧ ((CallsOk u.1))) (fun u => zB D classes (TY cI) (va_A [(h, .inr (0, [.ref ao, .ref ap, .ref ar, .ref ad, .int n])), (ao, .inl (cI, 40, .inl fo)), (ap, .inl (cI, 40, .inl fp)), (ar, .inl (cI, 40, .inl fr)), (ad, .inl (cI, 40, .inl fd))] sz) [(h, .inr (0, [.ref ao, .ref ap, .ref ar, .ref ad, .int u.1])), (ao, .inl (cI, 40, .inl u.2.1)), (ap, .inl (cI, 40, .inl u.2.2.1)), (ar, .inl (cI, 40, .inl u.2.2.2.1)), (ad, .inl (cI, 40, .inl u.2.2.2.2))]) (va_A [(h, .inr (0, [.ref ao, .ref ap, .ref ar, .ref ad, .int n])), (ao, .inl (cI, 40, .inl fo)), (ap, .inl (cI, 40, .inl fp)), (ar, .inl (cI, 40, .inl fr)), (ad, .inl (cI, 40, .inl fd))] sz)) 0 0 (va_A [(h, .inr (0, [.ref ao, .ref ap, .ref ar, .ref ad, .int n])), (ao, .inl (cI, 40, .inl fo)), (ap, .inl (cI, 40, .inl fp)), (ar, .inl (cI, 40, .inl fr)), (ad, .inl (cI, 40, .inl fd))] sz) := by
  refine Met.ofW (cc := b_Calls_beginCatch) (maxL := 3) (ret := none) (by decide) rfl ?_
  intro p e s m args below meth c s₁ B hml hv
  obtain ⟨rfl, hsz, hP, hK, hD0⟩ := hv
  have hx := B.exec
  have hb := B.bytes
  have hr := B.returns
  have hts := atoms_spec (ws := w_Calls_beginCatch) B.pre
  have hT : ∀ w ∈ TB, w.before _ s = true := fun w h => hts w (List.mem_cons_of_mem _ h)
  have hown : s.vm.findClass "ColonMachine$Calls" = some m.cls := findClass_of_methodNamed B.named
  have hlocks := B.notSynchronized
  subst hsz
  have hD := hD0.self (sz := s.heap.size)
  generalize hAe : va_A [(h, .inr (0, [.ref ao, .ref ap, .ref ar, .ref ad, .int n])), (ao, .inl (cI, 40, .inl fo)), (ap, .inl (cI, 40, .inl fp)), (ar, .inl (cI, 40, .inl fr)), (ad, .inl (cI, 40, .inl fd))] s.heap.size = A at hD ⊢
  have hA : ∀ q : Nat, s.heap.size ≤ q → A q := fun q h => by rw [← hAe]; exact Or.inr h
  have hS : va_S A s.heap s.heap [] := va_S.rf
  have hl := lv_entry [.ref h, .int x1, .int x2] (n := 3) (Nat.le_of_ble_eq_true rfl)
  rw [lg_entry_eq]
  generalize (lg_sl [.ref h, .int x1, .int x2] ++ List.replicate (3 - (lg_sl [.ref h, .int x1, .int x2]).length) Slot.unset).toArray = ls at hl ⊢
  have hl : lv_has ls 3 [(0, .ref h), (1, .int x1), (2, .int x2)] := hl
  have hF := F_Calls_beginCatch_e n fo fp fr fd x1 x2
  refine lv_aload_n hx hb d_Calls_beginCatch_0 rfl (lv_at hl 0 rfl) ?_
  refine lv_iconst (v := (-1)) hx hb d_Calls_beginCatch_1 (by decide) ?_
  refine lv_iconst (v := 0) hx hb d_Calls_beginCatch_2 (by decide) ?_
  refine lv_iload_n hx hb d_Calls_beginCatch_3 rfl (lv_at hl 1 rfl) ?_
  refine lv_iload_n hx hb d_Calls_beginCatch_4 rfl (lv_at hl 2 rfl) ?_
  refine kN_sv (wr := []) (fun u : Int32 × (Nat → Int32) × (Nat → Int32) × (Nat → Int32) × (Nat → Int32) => [(h, .inr (0, [.ref ao, .ref ap, .ref ar, .ref ad, .int u.1])), (ao, .inl (cI, 40, .inl u.2.1)), (ap, .inl (cI, 40, .inl u.2.2.1)), (ar, .inl (cI, 40, .inl u.2.2.2.1)), (ad, .inl (cI, 40, .inl u.2.2.2.2))]) (zV (As := [.int (-1), .int 0, .int x1, .int x2]) (rest := []) (st0 := [.int x2, .int x1, .int 0, .int (-1), .ref h]) ⟨hx, hb, hml, hown, hT⟩ (c_Calls_add l D cI s.heap.size h ao ap ar ad n fo fp fr fd (-1) 0 x1 x2 hi) (cwV 4 hT (tbV ml_Calls_28 im_Calls_add se_Calls_add in_Calls co_Calls_add) rfl rfl rfl v_Calls_add ⟨Nat.le_of_ble_eq_true rfl, Nat.le_of_ble_eq_true rfl⟩) hK (zPs (ws' := [(h, .inr (0, [.ref ao, .ref ap, .ref ar, .ref ad, .int n])), (ao, .inl (cI, 40, .inl fo)), (ap, .inl (cI, 40, .inl fp)), (ar, .inl (cI, 40, .inl fr)), (ad, .inl (cI, 40, .inl fd))]) hP [0, 1, 2, 3, 4] rfl) (hD.sub (ws' := [(h, .inr (0, [.ref ao, .ref ap, .ref ar, .ref ad, .int n])), (ao, .inl (cI, 40, .inl fo)), (ap, .inl (cI, 40, .inl fp)), (ar, .inl (cI, 40, .inl fr)), (ad, .inl (cI, 40, .inl fd))]) [0, 1, 2, 3, 4] rfl rfl) 0 rfl rfl rfl hl.1 rfl (Nat.le_of_ble_eq_true rfl) d_Calls_beginCatch_5 ⟨Nat.le_of_ble_eq_true rfl, Nat.le_of_ble_eq_true rfl⟩) hP hD hS hA [0, 1, 2, 3, 4] [] rfl rfl rfl (by decide) [0, 1, 2, 3, 4] rfl (fun u => rfl) (fun q1 H locs e1 k1 hP hD hS => ?_)
  have hP : va_P D classes [(h, .inr (0, [.ref ao, .ref ap, .ref ar, .ref ad, .int q1.1])), (ao, .inl (cI, 40, .inl q1.2.1)), (ap, .inl (cI, 40, .inl q1.2.2.1)), (ar, .inl (cI, 40, .inl q1.2.2.2.1)), (ad, .inl (cI, 40, .inl q1.2.2.2.2))] H := hP
  have hD : va_D A [(h, .inr (0, [.ref ao, .ref ap, .ref ar, .ref ad, .int q1.1])), (ao, .inl (cI, 40, .inl q1.2.1)), (ap, .inl (cI, 40, .inl q1.2.2.1)), (ar, .inl (cI, 40, .inl q1.2.2.2.1)), (ad, .inl (cI, 40, .inl q1.2.2.2.2))] := hD
  have hF := hF.trans (bd_e e1)
  exact W.vret hx hb hr (fun t ht hW => ⟨⟨_, rfl, ⟨hF.symm, k1⟩, ⟨by rw [ht]; exact hP, va_K.moved hW.alike hK, hD⟩⟩, hS.F ht⟩) hS.2.2 d_Calls_beginCatch_8
/-- the picture of ColonMachine$Calls.cutTo -/
def F_Calls_cutTo (n : Int32) (x1 : Int32) : Int32 := if x1 < 0 then n else (if n ≤ x1 then n else x1)
theorem F_Calls_cutTo_e (n : Int32) (x1 : Int32) : F_Calls_cutTo n x1 = if x1 < 0 then n else (if n ≤ x1 then n else x1) := rfl
set_option maxHeartbeats 4000000 in
set_option maxRecDepth 100000 in
theorem c_Calls_cutTo (l : Launch) (D : va_G) (cI : ClassId) (sz : Nat) (h : Nat) (ao : Nat) (ap : Nat) (ar : Nat) (ad : Nat) (n : Int32) (x1 : Int32) (hi : CallsOk n) : Met l y_Calls_cutTo w_Calls_cutTo ({ frames := 0, cells := 0, slots := 0, locals := 0 }) (va_Pc [.ref h, .int x1] (zP D classes (TY cI) [(h, .inr (0, [.ref ao, .ref ap, .ref ar, .ref ad, .int n]))] sz)) (va_Qv (fun u : Int32 => u = F_Calls_cutTo n x1 ∧ ((CallsOk u))) (fun u => zB D classes (TY cI) (va_A [(h, .inr (0, [.ref ao, .ref ap, .ref ar, .ref ad, .int n]))] sz) [(h, .inr (0, [.ref ao, .ref ap, .ref ar, .ref ad, .int u]))]) (va_A [(h, .inr (0, [.ref ao, .ref ap, .ref ar, .ref ad, .int n]))] sz)) 0 0 (va_A [(h, .inr (0, [.ref ao, .ref ap, .ref ar, .ref ad, .int n]))] sz) := by
  refine Met.ofW (cc := b_Calls_cutTo) (maxL := 2) (ret := none) (by decide) rfl ?_
  intro p e s m args below meth c s₁ B hml hv
  obtain ⟨rfl, hsz, hP, hK, hD0⟩ := hv
  have hx := B.exec
  have hb := B.bytes
  have hr := B.returns
  have hts := atoms_spec (ws := w_Calls_cutTo) B.pre
  have hT : ∀ w ∈ TB, w.before _ s = true := fun w h => hts w (List.mem_cons_of_mem _ h)
  have hown : s.vm.findClass "ColonMachine$Calls" = some m.cls := findClass_of_methodNamed B.named
  have hlocks := B.notSynchronized
  subst hsz
  have hD := hD0.self (sz := s.heap.size)
  generalize hAe : va_A [(h, .inr (0, [.ref ao, .ref ap, .ref ar, .ref ad, .int n]))] s.heap.size = A at hD ⊢
  have hA : ∀ q : Nat, s.heap.size ≤ q → A q := fun q h => by rw [← hAe]; exact Or.inr h
  have hS : va_S A s.heap s.heap [] := va_S.rf
  have hl := lv_entry [.ref h, .int x1] (n := 2) (Nat.le_of_ble_eq_true rfl)
  rw [lg_entry_eq]
  generalize (lg_sl [.ref h, .int x1] ++ List.replicate (2 - (lg_sl [.ref h, .int x1]).length) Slot.unset).toArray = ls at hl ⊢
  have hl : lv_has ls 2 [(0, .ref h), (1, .int x1)] := hl
  have hF := F_Calls_cutTo_e n x1
  refine lv_iload_n hx hb d_Calls_cutTo_0 rfl (lv_at hl 1 rfl) ?_
  refine lv_if_lt (tgt := 17) hx hb d_Calls_cutTo_1 (by decide) (fun c1 => ?_) (fun c1 => ?_)
  · have hF := hF.trans (if_pos c1)
    exact W.vret hx hb hr (fun t ht hW => ⟨⟨_, rfl, ⟨hF.symm, hi⟩, ⟨by rw [ht]; exact hP, va_K.moved hW.alike hK, hD⟩⟩, hS.F ht⟩) hS.2.2 d_Calls_cutTo_17
  · have hF := hF.trans (if_neg c1)
    refine lv_iload_n hx hb d_Calls_cutTo_4 rfl (lv_at hl 1 rfl) ?_
    refine lv_aload_n hx hb d_Calls_cutTo_5 rfl (lv_at hl 0 rfl) ?_
    refine va_get (D := D) (v := .int n) (C := "ColonMachine$Calls") (T := T_Calls) (N := 5) hx hb hT i_Calls hown hK hP 0 rfl rfl 4 (by decide) (hT _ fl_Calls_24) (fun _ h9 => h9) rfl d_Calls_cutTo_6 ?_
    refine lv_icmp_ge (tgt := 17) hx hb d_Calls_cutTo_9 (by decide) (fun c2 => ?_) (fun c2 => ?_)
    · have hF := hF.trans (if_pos c2)
      exact W.vret hx hb hr (fun t ht hW => ⟨⟨_, rfl, ⟨hF.symm, hi⟩, ⟨by rw [ht]; exact hP, va_K.moved hW.alike hK, hD⟩⟩, hS.F ht⟩) hS.2.2 d_Calls_cutTo_17
    · have hF := hF.trans (if_neg c2)
      refine lv_aload_n hx hb d_Calls_cutTo_12 rfl (lv_at hl 0 rfl) ?_
      refine lv_iload_n hx hb d_Calls_cutTo_13 rfl (lv_at hl 1 rfl) ?_
      refine va_put (D := D) (v := .int x1) (ty := .int) (C := "ColonMachine$Calls") (T := T_Calls) (N := 5) hx hb hT i_Calls t_Calls tk_Calls n_Calls hown hK hP hD hS 0 rfl rfl 4 (by decide) (hT _ fl_Calls_24) (fun _ h9 => h9) rfl (by decide +kernel) rfl rfl (Nat.le_of_ble_eq_true rfl) d_Calls_cutTo_14 (fun H locs hP hD hS => ?_)
      have hP : va_P D classes [(h, .inr (0, [.ref ao, .ref ap, .ref ar, .ref ad, .int x1]))] H := hP
      have hD : va_D A [(h, .inr (0, [.ref ao, .ref ap, .ref ar, .ref ad, .int x1]))] := hD
      exact W.vret hx hb hr (fun t ht hW => ⟨⟨_, rfl, ⟨hF.symm, (by have := ti_lo x1; have := ti_hi x1; have := ti_lo n; have := ti_hi n; have : Int32.toInt 0 = 0 := rfl; simp only [CellsOk, CallsOk, TextOk, MemOk, OutOk, Int32.lt_iff_toInt_lt, Int32.le_iff_toInt_le, ← Int32.toInt_inj, Int32.toInt_add, Int32.toInt_sub, Int32.toInt_mul, Int32.toInt_neg, zbm, zbm'] at c1 c2 hi ⊢; omega)⟩, ⟨by rw [ht]; exact hP, va_K.moved hW.alike hK, hD⟩⟩, hS.F ht⟩) hS.2.2 d_Calls_cutTo_17
/-- the picture of ColonMachine$Calls.end -/
def F_Calls_end (n : Int32) : Int32 := bd (F_Calls_cutTo n (n - 1)) (fun q1 => q1)
theorem F_Calls_end_e (n : Int32) : F_Calls_end n = bd (F_Calls_cutTo n (n - 1)) (fun q1 => q1) := rfl
set_option maxHeartbeats 4000000 in
set_option maxRecDepth 100000 in
theorem c_Calls_end (l : Launch) (D : va_G) (cI : ClassId) (sz : Nat) (h : Nat) (ao : Nat) (ap : Nat) (ar : Nat) (ad : Nat) (n : Int32) (hi : CallsOk n) : Met l y_Calls_end w_Calls_end ({ frames := 1, cells := 0, slots := 0, locals := 21 }) (va_Pc [.ref h] (zP D classes (TY cI) [(h, .inr (0, [.ref ao, .ref ap, .ref ar, .ref ad, .int n]))] sz)) (va_Qv (fun u : Int32 => u = F_Calls_end n ∧ ((CallsOk u))) (fun u => zB D classes (TY cI) (va_A [(h, .inr (0, [.ref ao, .ref ap, .ref ar, .ref ad, .int n]))] sz) [(h, .inr (0, [.ref ao, .ref ap, .ref ar, .ref ad, .int u]))]) (va_A [(h, .inr (0, [.ref ao, .ref ap, .ref ar, .ref ad, .int n]))] sz)) 0 0 (va_A [(h, .inr (0, [.ref ao, .ref ap, .ref ar, .ref ad, .int n]))] sz) := by
  refine Met.ofW (cc := b_Calls_end) (maxL := 1) (ret := none) (by decide) rfl ?_
  intro p e s m args below meth c s₁ B hml hv
  obtain ⟨rfl, hsz, hP, hK, hD0⟩ := hv
  have hx := B.exec
  have hb := B.bytes
  have hr := B.returns
  have hts := atoms_spec (ws := w_Calls_end) B.pre
  have hT : ∀ w ∈ TB, w.before _ s = true := fun w h => hts w (List.mem_cons_of_mem _ h)
  have hown : s.vm.findClass "ColonMachine$Calls" = some m.cls := findClass_of_methodNamed B.named
  have hlocks := B.notSynchronized
  subst hsz
  have hD := hD0.self (sz := s.heap.size)
  generalize hAe : va_A [(h, .inr (0, [.ref ao, .ref ap, .ref ar, .ref ad, .int n]))] s.heap.size = A at hD ⊢
  have hA : ∀ q : Nat, s.heap.size ≤ q → A q := fun q h => by rw [← hAe]; exact Or.inr h
  have hS : va_S A s.heap s.heap [] := va_S.rf
  have hl := lv_entry [.ref h] (n := 1) (Nat.le_of_ble_eq_true rfl)
  rw [lg_entry_eq]
  generalize (lg_sl [.ref h] ++ List.replicate (1 - (lg_sl [.ref h]).length) Slot.unset).toArray = ls at hl ⊢
  have hl : lv_has ls 1 [(0, .ref h)] := hl
  have hF := F_Calls_end_e n
  refine lv_aload_n hx hb d_Calls_end_0 rfl (lv_at hl 0 rfl) ?_
  refine lv_aload_n hx hb d_Calls_end_1 rfl (lv_at hl 0 rfl) ?_
  refine va_get (D := D) (v := .int n) (C := "ColonMachine$Calls") (T := T_Calls) (N := 5) hx hb hT i_Calls hown hK hP 0 rfl rfl 4 (by decide) (hT _ fl_Calls_24) (fun _ h9 => h9) rfl d_Calls_end_2 ?_
  refine lv_iconst (v := 1) hx hb d_Calls_end_5 (by decide) ?_
  refine lv_isub hx hb d_Calls_end_6 ?_
  refine kN_sv (wr := []) (fun u : Int32 => [(h, .inr (0, [.ref ao, .ref ap, .ref ar, .ref ad, .int u]))]) (zV (As := [.int (n - 1)]) (rest := []) (st0 := [.int (n - 1), .ref h]) ⟨hx, hb, hml, hown, hT⟩ (c_Calls_cutTo l D cI s.heap.size h ao ap ar ad n (n - 1) hi) (cwV 1 hT (tbV ml_Calls_32 im_Calls_cutTo se_Calls_cutTo in_Calls co_Calls_cutTo) rfl rfl rfl v_Calls_cutTo ⟨Nat.le_of_ble_eq_true rfl, Nat.le_of_ble_eq_true rfl⟩) hK (zPs (ws' := [(h, .inr (0, [.ref ao, .ref ap, .ref ar, .ref ad, .int n]))]) hP [0] rfl) (hD.sub (ws' := [(h, .inr (0, [.ref ao, .ref ap, .ref ar, .ref ad, .int n]))]) [0] rfl rfl) 0 rfl rfl rfl hl.1 rfl (Nat.le_of_ble_eq_true rfl) d_Calls_end_7 ⟨Nat.le_of_ble_eq_true rfl, Nat.le_of_ble_eq_true rfl⟩) hP hD hS hA [0] [] rfl rfl rfl (by decide) [0] rfl (fun u => rfl) (fun q1 H locs e1 k1 hP hD hS => ?_)
  have hP : va_P D classes [(h, .inr (0, [.ref ao, .ref ap, .ref ar, .ref ad, .int q1]))] H := hP
  have hD : va_D A [(h, .inr (0, [.ref ao, .ref ap, .ref ar, .ref ad, .int q1]))] := hD
  have hF := hF.trans (bd_e e1)
  exact W.vret hx hb hr (fun t ht hW => ⟨⟨_, rfl, ⟨hF.symm, k1⟩, ⟨by rw [ht]; exact hP, va_K.moved hW.alike hK, hD⟩⟩, hS.F ht⟩) hS.2.2 d_Calls_end_10
/-- the picture of ColonMachine$Calls.topIsCatch -/
def F_Calls_topIsCatch (n : Int32) (fo : Nat → Int32) : Int32 := if n ≤ 0 then 0 else (if (fo (n - 1).toNatClampNeg) = (-1) then 1 else 0)
theorem F_Calls_topIsCatch_e (n : Int32) (fo : Nat → Int32) : F_Calls_topIsCatch n fo = if n ≤ 0 then 0 else (if (fo (n - 1).toNatClampNeg) = (-1) then 1 else 0) := rfl
set_option maxHeartbeats 4000000 in
set_option maxRecDepth 100000 in
theorem c_Calls_topIsCatch (l : Launch) (D : va_G) (cI : ClassId) (sz : Nat) (h : Nat) (ao : Nat) (ap : Nat) (ar : Nat) (ad : Nat) (n : Int32) (fo : Nat → Int32) (hi : CallsOk n) : Met l y_Calls_topIsCatch w_Calls_topIsCatch ({ frames := 0, cells := 0, slots := 0, locals := 0 }) (va_Pc [.ref h] (zP D classes (TY cI) [(h, .inr (0, [.ref ao, .ref ap, .ref ar, .ref ad, .int n])), (ao, .inl (cI, 40, .inl fo))] sz)) (va_Qi (fun (r : Int32) (_ : Unit) => r = F_Calls_topIsCatch n fo ∧ ((r = 0 ∨ r = 1))) (fun _ => zB D classes (TY cI) (va_A [(h, .inr (0, [.ref ao, .ref ap, .ref ar, .ref ad, .int n])), (ao, .inl (cI, 40, .inl fo))] sz) [(h, .inr (0, [.ref ao, .ref ap, .ref ar, .ref ad, .int n])), (ao, .inl (cI, 40, .inl fo))]) (va_A [(h, .inr (0, [.ref ao, .ref ap, .ref ar, .ref ad, .int n])), (ao, .inl (cI, 40, .inl fo))] sz)) 0 0 (va_A [(h, .inr (0, [.ref ao, .ref ap, .ref ar, .ref ad, .int n])), (ao, .inl (cI, 40, .inl fo))] sz) := by
  refine Met.ofW (cc := b_Calls_topIsCatch) (maxL := 1) (ret := (some .boolean)) (by decide) rfl ?_
  intro p e s m args below meth c s₁ B hml hv
  obtain ⟨rfl, hsz, hP, hK, hD0⟩ := hv
  have hx := B.exec
  have hb := B.bytes
  have hr := B.returns
  have hts := atoms_spec (ws := w_Calls_topIsCatch) B.pre
  have hT : ∀ w ∈ TB, w.before _ s = true := fun w h => hts w (List.mem_cons_of_mem _ h)
  have hown : s.vm.findClass "ColonMachine$Calls" = some m.cls := findClass_of_methodNamed B.named
  have hlocks := B.notSynchronized
  subst hsz
  have hD := hD0.self (sz := s.heap.size)
  generalize hAe : va_A [(h, .inr (0, [.ref ao, .ref ap, .ref ar, .ref ad, .int n])), (ao, .inl (cI, 40, .inl fo))] s.heap.size = A at hD ⊢
  have hA : ∀ q : Nat, s.heap.size ≤ q → A q := fun q h => by rw [← hAe]; exact Or.inr h
  have hS : va_S A s.heap s.heap [] := va_S.rf
  have hl := lv_entry [.ref h] (n := 1) (Nat.le_of_ble_eq_true rfl)
  rw [lg_entry_eq]
  generalize (lg_sl [.ref h] ++ List.replicate (1 - (lg_sl [.ref h]).length) Slot.unset).toArray = ls at hl ⊢
  have hl : lv_has ls 1 [(0, .ref h)] := hl
  have hF := F_Calls_topIsCatch_e n fo
  refine lv_aload_n hx hb d_Calls_topIsCatch_0 rfl (lv_at hl 0 rfl) ?_
  refine va_get (D := D) (v := .int n) (C := "ColonMachine$Calls") (T := T_Calls) (N := 5) hx hb hT i_Calls hown hK hP 0 rfl rfl 4 (by decide) (hT _ fl_Calls_24) (fun _ h9 => h9) rfl d_Calls_topIsCatch_1 ?_
  refine lv_if_le (tgt := 26) hx hb d_Calls_topIsCatch_4 (by decide) (fun c1 => ?_) (fun c1 => ?_)
  · have hF := hF.trans (if_pos c1)
    refine lv_iconst (v := 0) hx hb d_Calls_topIsCatch_26 (by decide) ?_
    exact W.zret (v := 0) hx hb hr rfl (fun t ht hW => ⟨⟨_, (), rfl, ⟨hF.symm, (Or.inl rfl)⟩, ⟨by rw [ht]; exact hP, va_K.moved hW.alike hK, hD⟩⟩, hS.F ht⟩) hS.2.2 d_Calls_topIsCatch_27
  · have hF := hF.trans (if_neg c1)
    refine lv_aload_n hx hb d_Calls_topIsCatch_7 rfl (lv_at hl 0 rfl) ?_
    refine va_get (D := D) (v := .ref ao) (C := "ColonMachine$Calls") (T := T_Calls) (N := 5) hx hb hT i_Calls hown hK hP 0 rfl rfl 0 (by decide) (hT _ fl_Calls_11) (fun _ h9 => h9) rfl d_Calls_topIsCatch_8 ?_
    refine lv_aload_n hx hb d_Calls_topIsCatch_11 rfl (lv_at hl 0 rfl) ?_
    refine va_get (D := D) (v := .int n) (C := "ColonMachine$Calls") (T := T_Calls) (N := 5) hx hb hT i_Calls hown hK hP 0 rfl rfl 4 (by decide) (hT _ fl_Calls_24) (fun _ h9 => h9) rfl d_Calls_topIsCatch_12 ?_
    refine lv_iconst (v := 1) hx hb d_Calls_topIsCatch_15 (by decide) ?_
    refine lv_isub hx hb d_Calls_topIsCatch_16 ?_
    refine va_iald hx hb hK hP 1 0 rfl rfl (by have := ti_lo n; have := ti_hi n; have : Int32.toInt 1 = 1 := rfl; have : Int32.toInt 40 = 40 := rfl; have : Int32.toInt 0 = 0 := rfl; rw [vp_in_iff]; simp only [CellsOk, CallsOk, TextOk, MemOk, OutOk, Int32.lt_iff_toInt_lt, Int32.le_iff_toInt_le, ← Int32.toInt_inj, Int32.toInt_add, Int32.toInt_sub, Int32.toInt_mul, Int32.toInt_neg, zbm, zbm'] at c1 hi ⊢; omega) d_Calls_topIsCatch_17 ?_
    refine lv_iconst (v := (-1)) hx hb d_Calls_topIsCatch_18 (by decide) ?_
    refine lv_icmp_ne (tgt := 26) hx hb d_Calls_topIsCatch_19 (by decide) (fun c2 => ?_) (fun c2 => ?_)
    · have hF := hF.trans (if_neg c2)
      refine lv_iconst (v := 0) hx hb d_Calls_topIsCatch_26 (by decide) ?_
      exact W.zret (v := 0) hx hb hr rfl (fun t ht hW => ⟨⟨_, (), rfl, ⟨hF.symm, (Or.inl rfl)⟩, ⟨by rw [ht]; exact hP, va_K.moved hW.alike hK, hD⟩⟩, hS.F ht⟩) hS.2.2 d_Calls_topIsCatch_27
    · have hF := hF.trans (if_pos c2)
      refine lv_iconst (v := 1) hx hb d_Calls_topIsCatch_22 (by decide) ?_
      refine lv_goto (tgt := 27) hx hb d_Calls_topIsCatch_23 (by decide) ?_
      exact W.zret (v := 1) hx hb hr rfl (fun t ht hW => ⟨⟨_, (), rfl, ⟨hF.symm, (Or.inr rfl)⟩, ⟨by rw [ht]; exact hP, va_K.moved hW.alike hK, hD⟩⟩, hS.F ht⟩) hS.2.2 d_Calls_topIsCatch_27
/-- the picture of ColonMachine$Calls.topIsBody -/
def F_Calls_topIsBody (n : Int32) (fo : Nat → Int32) : Int32 := if n ≤ 0 then 0 else (if (fo (n - 1).toNatClampNeg) = (-1) then 0 else 1)
theorem F_Calls_topIsBody_e (n : Int32) (fo : Nat → Int32) : F_Calls_topIsBody n fo = if n ≤ 0 then 0 else (if (fo (n - 1).toNatClampNeg) = (-1) then 0 else 1) := rfl
set_option maxHeartbeats 4000000 in
set_option maxRecDepth 100000 in
theorem c_Calls_topIsBody (l : Launch) (D : va_G) (cI : ClassId) (sz : Nat) (h : Nat) (ao : Nat) (ap : Nat) (ar : Nat) (ad : Nat) (n : Int32) (fo : Nat → Int32) (hi : CallsOk n) : Met l y_Calls_topIsBody w_Calls_topIsBody ({ frames := 0, cells := 0, slots := 0, locals := 0 }) (va_Pc [.ref h] (zP D classes (TY cI) [(h, .inr (0, [.ref ao, .ref ap, .ref ar, .ref ad, .int n])), (ao, .inl (cI, 40, .inl fo))] sz)) (va_Qi (fun (r : Int32) (_ : Unit) => r = F_Calls_topIsBody n fo ∧ ((r = 0 ∨ r = 1))) (fun _ => zB D classes (TY cI) (va_A [(h, .inr (0, [.ref ao, .ref ap, .ref ar, .ref ad, .int n])), (ao, .inl (cI, 40, .inl fo))] sz) [(h, .inr (0, [.ref ao, .ref ap, .ref ar, .ref ad, .int n])), (ao, .inl (cI, 40, .inl fo))]) (va_A [(h, .inr (0, [.ref ao, .ref ap, .ref ar, .ref ad, .int n])), (ao, .inl (cI, 40, .inl fo))] sz)) 0 0 (va_A [(h, .inr (0, [.ref ao, .ref ap, .ref ar, .ref ad, .int n])), (ao, .inl (cI, 40, .inl fo))] sz) := by
  refine Met.ofW (cc := b_Calls_topIsBody) (maxL := 1) (ret := (some .boolean)) (by decide) rfl ?_
  intro p e s m args below meth c s₁ B hml hv
  obtain ⟨rfl, hsz, hP, hK, hD0⟩ := hv
  have hx := B.exec
  have hb := B.bytes
  have hr := B.returns
  have hts := atoms_spec (ws := w_Calls_topIsBody) B.pre
  have hT : ∀ w ∈ TB, w.before _ s = true := fun w h => hts w (List.mem_cons_of_mem _ h)
  have hown : s.vm.findClass "ColonMachine$Calls" = some m.cls := findClass_of_methodNamed B.named
  have hlocks := B.notSynchronized
  subst hsz
  have hD := hD0.self (sz := s.heap.size)
  generalize hAe : va_A [(h, .inr (0, [.ref ao, .ref ap, .ref ar, .ref ad, .int n])), (ao, .inl (cI, 40, .inl fo))] s.heap.size = A at hD ⊢
  have hA : ∀ q : Nat, s.heap.size ≤ q → A q := fun q h => by rw [← hAe]; exact Or.inr h
  have hS : va_S A s.heap s.heap [] := va_S.rf
  have hl := lv_entry [.ref h] (n := 1) (Nat.le_of_ble_eq_true rfl)
  rw [lg_entry_eq]
  generalize (lg_sl [.ref h] ++ List.replicate (1 - (lg_sl [.ref h]).length) Slot.unset).toArray = ls at hl ⊢
  have hl : lv_has ls 1 [(0, .ref h)] := hl
  have hF := F_Calls_topIsBody_e n fo
  refine lv_aload_n hx hb d_Calls_topIsBody_0 rfl (lv_at hl 0 rfl) ?_
  refine va_get (D := D) (v := .int n) (C := "ColonMachine$Calls") (T := T_Calls) (N := 5) hx hb hT i_Calls hown hK hP 0 rfl rfl 4 (by decide) (hT _ fl_Calls_24) (fun _ h9 => h9) rfl d_Calls_topIsBody_1 ?_
  refine lv_if_le (tgt := 26) hx hb d_Calls_topIsBody_4 (by decide) (fun c1 => ?_) (fun c1 => ?_)
  · have hF := hF.trans (if_pos c1)
    refine lv_iconst (v := 0) hx hb d_Calls_topIsBody_26 (by decide) ?_
    exact W.zret (v := 0) hx hb hr rfl (fun t ht hW => ⟨⟨_, (), rfl, ⟨hF.symm, (Or.inl rfl)⟩, ⟨by rw [ht]; exact hP, va_K.moved hW.alike hK, hD⟩⟩, hS.F ht⟩) hS.2.2 d_Calls_topIsBody_27
  · have hF := hF.trans (if_neg c1)
    refine lv_aload_n hx hb d_Calls_topIsBody_7 rfl (lv_at hl 0 rfl) ?_
    refine va_get (D := D) (v := .ref ao) (C := "ColonMachine$Calls") (T := T_Calls) (N := 5) hx hb hT i_Calls hown hK hP 0 rfl rfl 0 (by decide) (hT _ fl_Calls_11) (fun _ h9 => h9) rfl d_Calls_topIsBody_8 ?_
    refine lv_aload_n hx hb d_Calls_topIsBody_11 rfl (lv_at hl 0 rfl) ?_
    refine va_get (D := D) (v := .int n) (C := "ColonMachine$Calls") (T := T_Calls) (N := 5) hx hb hT i_Calls hown hK hP 0 rfl rfl 4 (by decide) (hT _ fl_Calls_24) (fun _ h9 => h9) rfl d_Calls_topIsBody_12 ?_
    refine lv_iconst (v := 1) hx hb d_Calls_topIsBody_15 (by decide) ?_
    refine lv_isub hx hb d_Calls_topIsBody_16 ?_
    refine va_iald hx hb hK hP 1 0 rfl rfl (by have := ti_lo n; have := ti_hi n; have : Int32.toInt 1 = 1 := rfl; have : Int32.toInt 40 = 40 := rfl; have : Int32.toInt 0 = 0 := rfl; rw [vp_in_iff]; simp only [CellsOk, CallsOk, TextOk, MemOk, OutOk, Int32.lt_iff_toInt_lt, Int32.le_iff_toInt_le, ← Int32.toInt_inj, Int32.toInt_add, Int32.toInt_sub, Int32.toInt_mul, Int32.toInt_neg, zbm, zbm'] at c1 hi ⊢; omega) d_Calls_topIsBody_17 ?_
    refine lv_iconst (v := (-1)) hx hb d_Calls_topIsBody_18 (by decide) ?_
    refine lv_icmp_eq (tgt := 26) hx hb d_Calls_topIsBody_19 (by decide) (fun c2 => ?_) (fun c2 => ?_)
    · have hF := hF.trans (if_pos c2)
      refine lv_iconst (v := 0) hx hb d_Calls_topIsBody_26 (by decide) ?_
      exact W.zret (v := 0) hx hb hr rfl (fun t ht hW => ⟨⟨_, (), rfl, ⟨hF.symm, (Or.inl rfl)⟩, ⟨by rw [ht]; exact hP, va_K.moved hW.alike hK, hD⟩⟩, hS.F ht⟩) hS.2.2 d_Calls_topIsBody_27
    · have hF := hF.trans (if_neg c2)
      refine lv_iconst (v := 1) hx hb d_Calls_topIsBody_22 (by decide) ?_
      refine lv_goto (tgt := 27) hx hb d_Calls_topIsBody_23 (by decide) ?_
      exact W.zret (v := 1) hx hb hr rfl (fun t ht hW => ⟨⟨_, (), rfl, ⟨hF.symm, (Or.inr rfl)⟩, ⟨by rw [ht]; exact hP, va_K.moved hW.alike hK, hD⟩⟩, hS.F ht⟩) hS.2.2 d_Calls_topIsBody_27
/-- the picture of ColonMachine$Calls.topOwner -/
def F_Calls_topOwner (n : Int32) (fo : Nat → Int32) : Int32 := if n ≤ 0 then (-1) else (fo (n - 1).toNatClampNeg)
theorem F_Calls_topOwner_e (n : Int32) (fo : Nat → Int32) : F_Calls_topOwner n fo = if n ≤ 0 then (-1) else (fo (n - 1).toNatClampNeg) := rfl
set_option maxHeartbeats 4000000 in
set_option maxRecDepth 100000 in
theorem c_Calls_topOwner (l : Launch) (D : va_G) (cI : ClassId) (sz : Nat) (h : Nat) (ao : Nat) (ap : Nat) (ar : Nat) (ad : Nat) (n : Int32) (fo : Nat → Int32) (hi : CallsOk n) : Met l y_Calls_topOwner w_Calls_topOwner ({ frames := 0, cells := 0, slots := 0, locals := 0 }) (va_Pc [.ref h] (zP D classes (TY cI) [(h, .inr (0, [.ref ao, .ref ap, .ref ar, .ref ad, .int n])), (ao, .inl (cI, 40, .inl fo))] sz)) (va_Qi (fun (r : Int32) (_ : Unit) => r = F_Calls_topOwner n fo ∧ (True)) (fun _ => zB D classes (TY cI) (va_A [(h, .inr (0, [.ref ao, .ref ap, .ref ar, .ref ad, .int n])), (ao, .inl (cI, 40, .inl fo))] sz) [(h, .inr (0, [.ref ao, .ref ap, .ref ar, .ref ad, .int n])), (ao, .inl (cI, 40, .inl fo))]) (va_A [(h, .inr (0, [.ref ao, .ref ap, .ref ar, .ref ad, .int n])), (ao, .inl (cI, 40, .inl fo))] sz)) 0 0 (va_A [(h, .inr (0, [.ref ao, .ref ap, .ref ar, .ref ad, .int n])), (ao, .inl (cI, 40, .inl fo))] sz) := by
  refine Met.ofW (cc := b_Calls_topOwner) (maxL := 1) (ret := (some .int)) (by decide) rfl ?_
  intro p e s m args below meth c s₁ B hml hv
  obtain ⟨rfl, hsz, hP, hK, hD0⟩ := hv
  have hx := B.exec
  have hb := B.bytes
  have hr := B.returns
  have hts := atoms_spec (ws := w_Calls_topOwner) B.pre
  have hT : ∀ w ∈ TB, w.before _ s = true := fun w h => hts w (List.mem_cons_of_mem _ h)
  have hown : s.vm.findClass "ColonMachine$Calls" = some m.cls := findClass_of_methodNamed B.named
  have hlocks := B.notSynchronized
  subst hsz
  have hD := hD0.self (sz := s.heap.size)
  generalize hAe : va_A [(h, .inr (0, [.ref ao, .ref ap, .ref ar, .ref ad, .int n])), (ao, .inl (cI, 40, .inl fo))] s.heap.size = A at hD ⊢
  have hA : ∀ q : Nat, s.heap.size ≤ q → A q := fun q h => by rw [← hAe]; exact Or.inr h
  have hS : va_S A s.heap s.heap [] := va_S.rf
  have hl := lv_entry [.ref h] (n := 1) (Nat.le_of_ble_eq_true rfl)
  rw [lg_entry_eq]
  generalize (lg_sl [.ref h] ++ List.replicate (1 - (lg_sl [.ref h]).length) Slot.unset).toArray = ls at hl ⊢
  have hl : lv_has ls 1 [(0, .ref h)] := hl
  have hF := F_Calls_topOwner_e n fo
  refine lv_aload_n hx hb d_Calls_topOwner_0 rfl (lv_at hl 0 rfl) ?_
  refine va_get (D := D) (v := .int n) (C := "ColonMachine$Calls") (T := T_Calls) (N := 5) hx hb hT i_Calls hown hK hP 0 rfl rfl 4 (by decide) (hT _ fl_Calls_24) (fun _ h9 => h9) rfl d_Calls_topOwner_1 ?_
  refine lv_if_le (tgt := 21) hx hb d_Calls_topOwner_4 (by decide) (fun c1 => ?_) (fun c1 => ?_)
  · have hF := hF.trans (if_pos c1)
    refine lv_iconst (v := (-1)) hx hb d_Calls_topOwner_21 (by decide) ?_
    exact W.iret (v := (-1)) hx hb hr (fun t ht hW => ⟨⟨_, (), rfl, ⟨hF.symm, trivial⟩, ⟨by rw [ht]; exact hP, va_K.moved hW.alike hK, hD⟩⟩, hS.F ht⟩) hS.2.2 d_Calls_topOwner_22
  · have hF := hF.trans (if_neg c1)
    refine lv_aload_n hx hb d_Calls_topOwner_7 rfl (lv_at hl 0 rfl) ?_
    refine va_get (D := D) (v := .ref ao) (C := "ColonMachine$Calls") (T := T_Calls) (N := 5) hx hb hT i_Calls hown hK hP 0 rfl rfl 0 (by decide) (hT _ fl_Calls_11) (fun _ h9 => h9) rfl d_Calls_topOwner_8 ?_
    refine lv_aload_n hx hb d_Calls_topOwner_11 rfl (lv_at hl 0 rfl) ?_
    refine va_get (D := D) (v := .int n) (C := "ColonMachine$Calls") (T := T_Calls) (N := 5) hx hb hT i_Calls hown hK hP 0 rfl rfl 4 (by decide) (hT _ fl_Calls_24) (fun _ h9 => h9) rfl d_Calls_topOwner_12 ?_
    refine lv_iconst (v := 1) hx hb d_Calls_topOwner_15 (by decide) ?_
    refine lv_isub hx hb d_Calls_topOwner_16 ?_
    refine va_iald hx hb hK hP 1 0 rfl rfl (by have := ti_lo n; have := ti_hi n; have : Int32.toInt 1 = 1 := rfl; have : Int32.toInt 40 = 40 := rfl; have : Int32.toInt 0 = 0 := rfl; rw [vp_in_iff]; simp only [CellsOk, CallsOk, TextOk, MemOk, OutOk, Int32.lt_iff_toInt_lt, Int32.le_iff_toInt_le, ← Int32.toInt_inj, Int32.toInt_add, Int32.toInt_sub, Int32.toInt_mul, Int32.toInt_neg, zbm, zbm'] at c1 hi ⊢; omega) d_Calls_topOwner_17 ?_
    refine lv_goto (tgt := 22) hx hb d_Calls_topOwner_18 (by decide) ?_
    exact W.iret (v := fo (n - 1).toNatClampNeg) hx hb hr (fun t ht hW => ⟨⟨_, (), rfl, ⟨hF.symm, trivial⟩, ⟨by rw [ht]; exact hP, va_K.moved hW.alike hK, hD⟩⟩, hS.F ht⟩) hS.2.2 d_Calls_topOwner_22
/-- the picture of ColonMachine$Calls.topPlace -/
def F_Calls_topPlace (n : Int32) (fp : Nat → Int32) : Int32 := if n ≤ 0 then 0 else (fp (n - 1).toNatClampNeg)
theorem F_Calls_topPlace_e (n : Int32) (fp : Nat → Int32) : F_Calls_topPlace n fp = if n ≤ 0 then 0 else (fp (n - 1).toNatClampNeg) := rfl
set_option maxHeartbeats 4000000 in
set_option maxRecDepth 100000 in
theorem c_Calls_topPlace (l : Launch) (D : va_G) (cI : ClassId) (sz : Nat) (h : Nat) (ao : Nat) (ap : Nat) (ar : Nat) (ad : Nat) (n : Int32) (fp : Nat → Int32) (hi : CallsOk n) : Met l y_Calls_topPlace w_Calls_topPlace ({ frames := 0, cells := 0, slots := 0, locals := 0 }) (va_Pc [.ref h] (zP D classes (TY cI) [(h, .inr (0, [.ref ao, .ref ap, .ref ar, .ref ad, .int n])), (ap, .inl (cI, 40, .inl fp))] sz)) (va_Qi (fun (r : Int32) (_ : Unit) => r = F_Calls_topPlace n fp ∧ (True)) (fun _ => zB D classes (TY cI) (va_A [(h, .inr (0, [.ref ao, .ref ap, .ref ar, .ref ad, .int n])), (ap, .inl (cI, 40, .inl fp))] sz) [(h, .inr (0, [.ref ao, .ref ap, .ref ar, .ref ad, .int n])), (ap, .inl (cI, 40, .inl fp))]) (va_A [(h, .inr (0, [.ref ao, .ref ap, .ref ar, .ref ad, .int n])), (ap, .inl (cI, 40, .inl fp))] sz)) 0 0 (va_A [(h, .inr (0, [.ref ao, .ref ap, .ref ar, .ref ad, .int n])), (ap, .inl (cI, 40, .inl fp))] sz) := by
  refine Met.ofW (cc := b_Calls_topPlace) (maxL := 1) (ret := (some .int)) (by decide) rfl ?_
  intro p e s m args below meth c s₁ B hml hv
  obtain ⟨rfl, hsz, hP, hK, hD0⟩ := hv
  have hx := B.exec
  have hb := B.bytes
  have hr := B.returns
  have hts := atoms_spec (ws := w_Calls_topPlace) B.pre
  have hT : ∀ w ∈ TB, w.before _ s = true := fun w h => hts w (List.mem_cons_of_mem _ h)
  have hown : s.vm.findClass "ColonMachine$Calls" = some m.cls := findClass_of_methodNamed B.named
  have hlocks := B.notSynchronized
  subst hsz
  have hD := hD0.self (sz := s.heap.size)
  generalize hAe : va_A [(h, .inr (0, [.ref ao, .ref ap, .ref ar, .ref ad, .int n])), (ap, .inl (cI, 40, .inl fp))] s.heap.size = A at hD ⊢
  have hA : ∀ q : Nat, s.heap.size ≤ q → A q := fun q h => by rw [← hAe]; exact Or.inr h
  have hS : va_S A s.heap s.heap [] := va_S.rf
  have hl := lv_entry [.ref h] (n := 1) (Nat.le_of_ble_eq_true rfl)
  rw [lg_entry_eq]
  generalize (lg_sl [.ref h] ++ List.replicate (1 - (lg_sl [.ref h]).length) Slot.unset).toArray = ls at hl ⊢
  have hl : lv_has ls 1 [(0, .ref h)] := hl
  have hF := F_Calls_topPlace_e n fp
  refine lv_aload_n hx hb d_Calls_topPlace_0 rfl (lv_at hl 0 rfl) ?_
  refine va_get (D := D) (v := .int n) (C := "ColonMachine$Calls") (T := T_Calls) (N := 5) hx hb hT i_Calls hown hK hP 0 rfl rfl 4 (by decide) (hT _ fl_Calls_24) (fun _ h9 => h9) rfl d_Calls_topPlace_1 ?_
  refine lv_if_le (tgt := 21) hx hb d_Calls_topPlace_4 (by decide) (fun c1 => ?_) (fun c1 => ?_)
  · have hF := hF.trans (if_pos c1)
    refine lv_iconst (v := 0) hx hb d_Calls_topPlace_21 (by decide) ?_
    exact W.iret (v := 0) hx hb hr (fun t ht hW => ⟨⟨_, (), rfl, ⟨hF.symm, trivial⟩, ⟨by rw [ht]; exact hP, va_K.moved hW.alike hK, hD⟩⟩, hS.F ht⟩) hS.2.2 d_Calls_topPlace_22
  · have hF := hF.trans (if_neg c1)
    refine lv_aload_n hx hb d_Calls_topPlace_7 rfl (lv_at hl 0 rfl) ?_
    refine va_get (D := D) (v := .ref ap) (C := "ColonMachine$Calls") (T := T_Calls) (N := 5) hx hb hT i_Calls hown hK hP 0 rfl rfl 1 (by decide) (hT _ fl_Calls_15) (fun _ h9 => h9) rfl d_Calls_topPlace_8 ?_
    refine lv_aload_n hx hb d_Calls_topPlace_11 rfl (lv_at hl 0 rfl) ?_
    refine va_get (D := D) (v := .int n) (C := "ColonMachine$Calls") (T := T_Calls) (N := 5) hx hb hT i_Calls hown hK hP 0 rfl rfl 4 (by decide) (hT _ fl_Calls_24) (fun _ h9 => h9) rfl d_Calls_topPlace_12 ?_
    refine lv_iconst (v := 1) hx hb d_Calls_topPlace_15 (by decide) ?_
    refine lv_isub hx hb d_Calls_topPlace_16 ?_
    refine va_iald hx hb hK hP 1 0 rfl rfl (by have := ti_lo n; have := ti_hi n; have : Int32.toInt 1 = 1 := rfl; have : Int32.toInt 40 = 40 := rfl; have : Int32.toInt 0 = 0 := rfl; rw [vp_in_iff]; simp only [CellsOk, CallsOk, TextOk, MemOk, OutOk, Int32.lt_iff_toInt_lt, Int32.le_iff_toInt_le, ← Int32.toInt_inj, Int32.toInt_add, Int32.toInt_sub, Int32.toInt_mul, Int32.toInt_neg, zbm, zbm'] at c1 hi ⊢; omega) d_Calls_topPlace_17 ?_
    refine lv_goto (tgt := 22) hx hb d_Calls_topPlace_18 (by decide) ?_
    exact W.iret (v := fp (n - 1).toNatClampNeg) hx hb hr (fun t ht hW => ⟨⟨_, (), rfl, ⟨hF.symm, trivial⟩, ⟨by rw [ht]; exact hP, va_K.moved hW.alike hK, hD⟩⟩, hS.F ht⟩) hS.2.2 d_Calls_topPlace_22
/-- the picture of ColonMachine$Calls.goTo -/
def F_Calls_goTo (n : Int32) (fp : Nat → Int32) (x1 : Int32) : (Nat → Int32) := if n ≤ 0 then fp else (upd fp (n - 1).toNatClampNeg x1)
theorem F_Calls_goTo_e (n : Int32) (fp : Nat → Int32) (x1 : Int32) : F_Calls_goTo n fp x1 = if n ≤ 0 then fp else (upd fp (n - 1).toNatClampNeg x1) := rfl
set_option maxHeartbeats 4000000 in
set_option maxRecDepth 100000 in
theorem c_Calls_goTo (l : Launch) (D : va_G) (cI : ClassId) (sz : Nat) (h : Nat) (ao : Nat) (ap : Nat) (ar : Nat) (ad : Nat) (n : Int32) (fp : Nat → Int32) (x1 : Int32) (hi : CallsOk n) : Met l y_Calls_goTo w_Calls_goTo ({ frames := 0, cells := 0, slots := 0, locals := 0 }) (va_Pc [.ref h, .int x1] (zP D classes (TY cI) [(h, .inr (0, [.ref ao, .ref ap, .ref ar, .ref ad, .int n])), (ap, .inl (cI, 40, .inl fp))] sz)) (va_Qv (fun u : (Nat → Int32) => u = F_Calls_goTo n fp x1 ∧ (True)) (fun u => zB D classes (TY cI) (va_A [(h, .inr (0, [.ref ao, .ref ap, .ref ar, .ref ad, .int n])), (ap, .inl (cI, 40, .inl fp))] sz) [(h, .inr (0, [.ref ao, .ref ap, .ref ar, .ref ad, .int n])), (ap, .inl (cI, 40, .inl u))]) (va_A [(h, .inr (0, [.ref ao, .ref ap, .ref ar, .ref ad, .int n])), (ap, .inl (cI, 40, .inl fp))] sz)) 0 0 (va_A [(h, .inr (0, [.ref ao, .ref ap, .ref ar, .ref ad, .int n])), (ap, .inl (cI, 40, .inl fp))] sz) := by
  refine Met.ofW (cc := b_Calls_goTo) (maxL := 2) (ret := none) (by decide) rfl ?_
  intro p e s m args below meth c s₁ B hml hv
  obtain ⟨rfl, hsz, hP, hK, hD0⟩ := hv
  have hx := B.exec
  have hb := B.bytes
  have hr := B.returns
  have hts := atoms_spec (ws := w_Calls_goTo) B.pre
  have hT : ∀ w ∈ TB, w.before _ s = true := fun w h => hts w (List.mem_cons_of_mem _ h)
  have hown : s.vm.findClass "ColonMachine$Calls" = some m.cls := findClass_of_methodNamed B.named
  have hlocks := B.notSynchronized
  subst hsz
  have hD := hD0.self (sz := s.heap.size)
  generalize hAe : va_A [(h, .inr (0, [.ref ao, .ref ap, .ref ar, .ref ad, .int n])), (ap, .inl (cI, 40, .inl fp))] s.heap.size = A at hD ⊢
  have hA : ∀ q : Nat, s.heap.size ≤ q → A q := fun q h => by rw [← hAe]; exact Or.inr h
  have hS : va_S A s.heap s.heap [] := va_S.rf
  have hl := lv_entry [.ref h, .int x1] (n := 2) (Nat.le_of_ble_eq_true rfl)
  rw [lg_entry_eq]
  generalize (lg_sl [.ref h, .int x1] ++ List.replicate (2 - (lg_sl [.ref h, .int x1]).length) Slot.unset).toArray = ls at hl ⊢
  have hl : lv_has ls 2 [(0, .ref h), (1, .int x1)] := hl
  have hF := F_Calls_goTo_e n fp x1
  refine lv_aload_n hx hb d_Calls_goTo_0 rfl (lv_at hl 0 rfl) ?_
  refine va_get (D := D) (v := .int n) (C := "ColonMachine$Calls") (T := T_Calls) (N := 5) hx hb hT i_Calls hown hK hP 0 rfl rfl 4 (by decide) (hT _ fl_Calls_24) (fun _ h9 => h9) rfl d_Calls_goTo_1 ?_
  refine lv_if_le (tgt := 19) hx hb d_Calls_goTo_4 (by decide) (fun c1 => ?_) (fun c1 => ?_)
  · have hF := hF.trans (if_pos c1)
    exact W.vret hx hb hr (fun t ht hW => ⟨⟨_, rfl, ⟨hF.symm, trivial⟩, ⟨by rw [ht]; exact hP, va_K.moved hW.alike hK, hD⟩⟩, hS.F ht⟩) hS.2.2 d_Calls_goTo_19
  · have hF := hF.trans (if_neg c1)
    refine lv_aload_n hx hb d_Calls_goTo_7 rfl (lv_at hl 0 rfl) ?_
    refine va_get (D := D) (v := .ref ap) (C := "ColonMachine$Calls") (T := T_Calls) (N := 5) hx hb hT i_Calls hown hK hP 0 rfl rfl 1 (by decide) (hT _ fl_Calls_15) (fun _ h9 => h9) rfl d_Calls_goTo_8 ?_
    refine lv_aload_n hx hb d_Calls_goTo_11 rfl (lv_at hl 0 rfl) ?_
    refine va_get (D := D) (v := .int n) (C := "ColonMachine$Calls") (T := T_Calls) (N := 5) hx hb hT i_Calls hown hK hP 0 rfl rfl 4 (by decide) (hT _ fl_Calls_24) (fun _ h9 => h9) rfl d_Calls_goTo_12 ?_
    refine lv_iconst (v := 1) hx hb d_Calls_goTo_15 (by decide) ?_
    refine lv_isub hx hb d_Calls_goTo_16 ?_
    refine lv_iload_n hx hb d_Calls_goTo_17 rfl (lv_at hl 1 rfl) ?_
    refine va_iast hx hb hK hP hD hS 1 0 rfl rfl (by have := ti_lo n; have := ti_hi n; have : Int32.toInt 1 = 1 := rfl; have : Int32.toInt 40 = 40 := rfl; have : Int32.toInt 0 = 0 := rfl; rw [vp_in_iff]; simp only [CellsOk, CallsOk, TextOk, MemOk, OutOk, Int32.lt_iff_toInt_lt, Int32.le_iff_toInt_le, ← Int32.toInt_inj, Int32.toInt_add, Int32.toInt_sub, Int32.toInt_mul, Int32.toInt_neg, zbm, zbm'] at c1 hi ⊢; omega) d_Calls_goTo_18 (fun H locs hP hD hS => ?_)
    have hP : va_P D classes [(h, .inr (0, [.ref ao, .ref ap, .ref ar, .ref ad, .int n])), (ap, .inl (cI, 40, .inl (upd fp (n - 1).toNatClampNeg x1)))] H := hP
    have hD : va_D A [(h, .inr (0, [.ref ao, .ref ap, .ref ar, .ref ad, .int n])), (ap, .inl (cI, 40, .inl (upd fp (n - 1).toNatClampNeg x1)))] := hD
    exact W.vret hx hb hr (fun t ht hW => ⟨⟨_, rfl, ⟨hF.symm, trivial⟩, ⟨by rw [ht]; exact hP, va_K.moved hW.alike hK, hD⟩⟩, hS.F ht⟩) hS.2.2 d_Calls_goTo_19
/-- the picture of ColonMachine$Calls.ownReturns -/
def F_Calls_ownReturns (n : Int32) (fr : Nat → Int32) (x1 : Int32) : Int32 := if n ≤ 0 then 0 else (x1 - (fr (n - 1).toNatClampNeg))
theorem F_Calls_ownReturns_e (n : Int32) (fr : Nat → Int32) (x1 : Int32) : F_Calls_ownReturns n fr x1 = if n ≤ 0 then 0 else (x1 - (fr (n - 1).toNatClampNeg)) := rfl
set_option maxHeartbeats 4000000 in
set_option maxRecDepth 100000 in
theorem c_Calls_ownReturns (l : Launch) (D : va_G) (cI : ClassId) (sz : Nat) (h : Nat) (ao : Nat) (ap : Nat) (ar : Nat) (ad : Nat) (n : Int32) (fr : Nat → Int32) (x1 : Int32) (hi : CallsOk n) : Met l y_Calls_ownReturns w_Calls_ownReturns ({ frames := 0, cells := 0, slots := 0, locals := 0 }) (va_Pc [.ref h, .int x1] (zP D classes (TY cI) [(h, .inr (0, [.ref ao, .ref ap, .ref ar, .ref ad, .int n])), (ar, .inl (cI, 40, .inl fr))] sz)) (va_Qi (fun (r : Int32) (_ : Unit) => r = F_Calls_ownReturns n fr x1 ∧ (True)) (fun _ => zB D classes (TY cI) (va_A [(h, .inr (0, [.ref ao, .ref ap, .ref ar, .ref ad, .int n])), (ar, .inl (cI, 40, .inl fr))] sz) [(h, .inr (0, [.ref ao, .ref ap, .ref ar, .ref ad, .int n])), (ar, .inl (cI, 40, .inl fr))]) (va_A [(h, .inr (0, [.ref ao, .ref ap, .ref ar, .ref ad, .int n])), (ar, .inl (cI, 40, .inl fr))] sz)) 0 0 (va_A [(h, .inr (0, [.ref ao, .ref ap, .ref ar, .ref ad, .int n])), (ar, .inl (cI, 40, .inl fr))] sz) := by
  refine Met.ofW (cc := b_Calls_ownReturns) (maxL := 2) (ret := (some .int)) (by decide) rfl ?_
  intro p e s m args below meth c s₁ B hml hv
  obtain ⟨rfl, hsz, hP, hK, hD0⟩ := hv
  have hx := B.exec
  have hb := B.bytes
  have hr := B.returns
  have hts := atoms_spec (ws := w_Calls_ownReturns) B.pre
  have hT : ∀ w ∈ TB, w.before _ s = true := fun w h => hts w (List.mem_cons_of_mem _ h)
  have hown : s.vm.findClass "ColonMachine$Calls" = some m.cls := findClass_of_methodNamed B.named
  have hlocks := B.notSynchronized
  subst hsz
  have hD := hD0.self (sz := s.heap.size)
  generalize hAe : va_A [(h, .inr (0, [.ref ao, .ref ap, .ref ar, .ref ad, .int n])), (ar, .inl (cI, 40, .inl fr))] s.heap.size = A at hD ⊢
  have hA : ∀ q : Nat, s.heap.size ≤ q → A q := fun q h => by rw [← hAe]; exact Or.inr h
  have hS : va_S A s.heap s.heap [] := va_S.rf
  have hl := lv_entry [.ref h, .int x1] (n := 2) (Nat.le_of_ble_eq_true rfl)
  rw [lg_entry_eq]
  generalize (lg_sl [.ref h, .int x1] ++ List.replicate (2 - (lg_sl [.ref h, .int x1]).length) Slot.unset).toArray = ls at hl ⊢
  have hl : lv_has ls 2 [(0, .ref h), (1, .int x1)] := hl
  have hF := F_Calls_ownReturns_e n fr x1
  refine lv_aload_n hx hb d_Calls_ownReturns_0 rfl (lv_at hl 0 rfl) ?_
  refine va_get (D := D) (v := .int n) (C := "ColonMachine$Calls") (T := T_Calls) (N := 5) hx hb hT i_Calls hown hK hP 0 rfl rfl 4 (by decide) (hT _ fl_Calls_24) (fun _ h9 => h9) rfl d_Calls_ownReturns_1 ?_
  refine lv_if_le (tgt := 23) hx hb d_Calls_ownReturns_4 (by decide) (fun c1 => ?_) (fun c1 => ?_)
  · have hF := hF.trans (if_pos c1)
    refine lv_iconst (v := 0) hx hb d_Calls_ownReturns_23 (by decide) ?_
    exact W.iret (v := 0) hx hb hr (fun t ht hW => ⟨⟨_, (), rfl, ⟨hF.symm, trivial⟩, ⟨by rw [ht]; exact hP, va_K.moved hW.alike hK, hD⟩⟩, hS.F ht⟩) hS.2.2 d_Calls_ownReturns_24
  · have hF := hF.trans (if_neg c1)
    refine lv_iload_n hx hb d_Calls_ownReturns_7 rfl (lv_at hl 1 rfl) ?_
    refine lv_aload_n hx hb d_Calls_ownReturns_8 rfl (lv_at hl 0 rfl) ?_
    refine va_get (D := D) (v := .ref ar) (C := "ColonMachine$Calls") (T := T_Calls) (N := 5) hx hb hT i_Calls hown hK hP 0 rfl rfl 2 (by decide) (hT _ fl_Calls_18) (fun _ h9 => h9) rfl d_Calls_ownReturns_9 ?_
    refine lv_aload_n hx hb d_Calls_ownReturns_12 rfl (lv_at hl 0 rfl) ?_
    refine va_get (D := D) (v := .int n) (C := "ColonMachine$Calls") (T := T_Calls) (N := 5) hx hb hT i_Calls hown hK hP 0 rfl rfl 4 (by decide) (hT _ fl_Calls_24) (fun _ h9 => h9) rfl d_Calls_ownReturns_13 ?_
    refine lv_iconst (v := 1) hx hb d_Calls_ownReturns_16 (by decide) ?_
    refine lv_isub hx hb d_Calls_ownReturns_17 ?_
    refine va_iald hx hb hK hP 1 0 rfl rfl (by have := ti_lo n; have := ti_hi n; have : Int32.toInt 1 = 1 := rfl; have : Int32.toInt 40 = 40 := rfl; have : Int32.toInt 0 = 0 := rfl; rw [vp_in_iff]; simp only [CellsOk, CallsOk, TextOk, MemOk, OutOk, Int32.lt_iff_toInt_lt, Int32.le_iff_toInt_le, ← Int32.toInt_inj, Int32.toInt_add, Int32.toInt_sub, Int32.toInt_mul, Int32.toInt_neg, zbm, zbm'] at c1 hi ⊢; omega) d_Calls_ownReturns_18 ?_
    refine lv_isub hx hb d_Calls_ownReturns_19 ?_
    refine lv_goto (tgt := 24) hx hb d_Calls_ownReturns_20 (by decide) ?_
    exact W.iret (v := x1 - (fr (n - 1).toNatClampNeg)) hx hb hr (fun t ht hW => ⟨⟨_, (), rfl, ⟨hF.symm, trivial⟩, ⟨by rw [ht]; exact hP, va_K.moved hW.alike hK, hD⟩⟩, hS.F ht⟩) hS.2.2 d_Calls_ownReturns_24
def F_Calls_holdBodyFrom_L2 (n : Int32) (fo : Nat → Int32) (x1 : Int32) : Nat → (Int32) → Int32
  | 0, _ => 0
  | k2 + 1, v2 => if n ≤ v2 then 0 else (if (fo v2.toNatClampNeg) < x1 then (F_Calls_holdBodyFrom_L2 n fo x1 k2 (v2 + 1)) else 1)
theorem F_Calls_holdBodyFrom_L2_s (n : Int32) (fo : Nat → Int32) (x1 : Int32) (k2 : Nat) (v2 : Int32) : F_Calls_holdBodyFrom_L2 n fo x1 (k2 + 1) v2 = if n ≤ v2 then 0 else (if (fo v2.toNatClampNeg) < x1 then (F_Calls_holdBodyFrom_L2 n fo x1 k2 (v2 + 1)) else 1) := rfl
/-- the picture of ColonMachine$Calls.holdBodyFrom -/
def F_Calls_holdBodyFrom (n : Int32) (fo : Nat → Int32) (x1 : Int32) : Int32 := F_Calls_holdBodyFrom_L2 n fo x1 (((n.toInt - (0 : Int32).toInt).toNat) + 1) 0
theorem F_Calls_holdBodyFrom_e (n : Int32) (fo : Nat → Int32) (x1 : Int32) : F_Calls_holdBodyFrom n fo x1 = F_Calls_holdBodyFrom_L2 n fo x1 (((n.toInt - (0 : Int32).toInt).toNat) + 1) 0 := rfl
set_option maxHeartbeats 4000000 in
set_option maxRecDepth 100000 in
theorem c_Calls_holdBodyFrom (l : Launch) (D : va_G) (cI : ClassId) (sz : Nat) (h : Nat) (ao : Nat) (ap : Nat) (ar : Nat) (ad : Nat) (n : Int32) (fo : Nat → Int32) (x1 : Int32) (hi : CallsOk n) : Met l y_Calls_holdBodyFrom w_Calls_holdBodyFrom ({ frames := 0, cells := 0, slots := 0, locals := 0 }) (va_Pc [.ref h, .int x1] (zP D classes (TY cI) [(h, .inr (0, [.ref ao, .ref ap, .ref ar, .ref ad, .int n])), (ao, .inl (cI, 40, .inl fo))] sz)) (va_Qi (fun (r : Int32) (_ : Unit) => r = F_Calls_holdBodyFrom n fo x1 ∧ ((r = 0 ∨ r = 1))) (fun _ => zB D classes (TY cI) (va_A [(h, .inr (0, [.ref ao, .ref ap, .ref ar, .ref ad, .int n])), (ao, .inl (cI, 40, .inl fo))] sz) [(h, .inr (0, [.ref ao, .ref ap, .ref ar, .ref ad, .int n])), (ao, .inl (cI, 40, .inl fo))]) (va_A [(h, .inr (0, [.ref ao, .ref ap, .ref ar, .ref ad, .int n])), (ao, .inl (cI, 40, .inl fo))] sz)) 0 0 (va_A [(h, .inr (0, [.ref ao, .ref ap, .ref ar, .ref ad, .int n])), (ao, .inl (cI, 40, .inl fo))] sz) := by
  refine Met.ofW (cc := b_Calls_holdBodyFrom) (maxL := 3) (ret := (some .boolean)) (by decide) rfl ?_
  intro p e s m args below meth c s₁ B hml hv
  obtain ⟨rfl, hsz, hP, hK, hD0⟩ := hv
  have hx := B.exec
  have hb := B.bytes
  have hr := B.returns
  have hts := atoms_spec (ws := w_Calls_holdBodyFrom) B.pre
  have hT : ∀ w ∈ TB, w.before _ s = true := fun w h => hts w (List.mem_cons_of_mem _ h)
  have hown : s.vm.findClass "ColonMachine$Calls" = some m.cls := findClass_of_methodNamed B.named
  have hlocks := B.notSynchronized
  subst hsz
  have hD := hD0.self (sz := s.heap.size)
  generalize hAe : va_A [(h, .inr (0, [.ref ao, .ref ap, .ref ar, .ref ad, .int n])), (ao, .inl (cI, 40, .inl fo))] s.heap.size = A at hD ⊢
  have hA : ∀ q : Nat, s.heap.size ≤ q → A q := fun q h => by rw [← hAe]; exact Or.inr h
  have hS : va_S A s.heap s.heap [] := va_S.rf
  have hl := lv_entry [.ref h, .int x1] (n := 3) (Nat.le_of_ble_eq_true rfl)
  rw [lg_entry_eq]
  generalize (lg_sl [.ref h, .int x1] ++ List.replicate (3 - (lg_sl [.ref h, .int x1]).length) Slot.unset).toArray = ls at hl ⊢
  have hl : lv_has ls 3 [(0, .ref h), (1, .int x1)] := hl
  have hF := F_Calls_holdBodyFrom_e n fo x1
  refine lv_iconst (v := 0) hx hb d_Calls_holdBodyFrom_0 (by decide) ?_
  refine lv_istore_n (lv' := [(2, .int 0), (0, .ref h), (1, .int x1)]) hx hb d_Calls_holdBodyFrom_1 rfl hl (by decide) rfl (fun ls hl => ?_)
  have loop : ∀ (k2 : Nat) (v2 : Int32) (hk : (n.toInt - v2.toInt).toNat < k2) (hw : 0 ≤ v2.toInt) (H : Heap) (locs : List Loc) (ls : Array Slot) (hP : va_P D classes [(h, .inr (0, [.ref ao, .ref ap, .ref ar, .ref ad, .int n])), (ao, .inl (cI, 40, .inl fo))] H) (hD : va_D A [(h, .inr (0, [.ref ao, .ref ap, .ref ar, .ref ad, .int n])), (ao, .inl (cI, 40, .inl fo))]) (hS : va_S A s.heap H locs) (hl : lv_has ls 3 [(2, .int v2), (0, .ref h), (1, .int x1)]) (hF : F_Calls_holdBodyFrom n fo x1 = F_Calls_holdBodyFrom_L2 n fo x1 k2 v2), W p l e (headSpec w_Calls_holdBodyFrom ({ frames := 0, cells := 0, slots := 0, locals := 0 })).room s m (List.toArray [.ref h, .int x1]) below meth c H locs 0 0 (MQ below (va_Qi (fun (r : Int32) (_ : Unit) => r = F_Calls_holdBodyFrom n fo x1 ∧ ((r = 0 ∨ r = 1))) (fun _ => zB D classes (TY cI) A [(h, .inr (0, [.ref ao, .ref ap, .ref ar, .ref ad, .int n])), (ao, .inl (cI, 40, .inl fo))]) A) (List.toArray [.ref h, .int x1]) s 0 0 A) (F0 m 2 ls []) := by
    intro k2
    induction k2 with
    | zero => intro v2 hk; exact absurd hk (Nat.not_lt_zero _)
    | succ k2 ih =>
      intro v2 hk hw H locs ls hP hD hS hl hF
      have hF := hF.trans (F_Calls_holdBodyFrom_L2_s n fo x1 k2 v2)
      refine lv_iload_n hx hb d_Calls_holdBodyFrom_2 rfl (lv_at hl 0 rfl) ?_
      refine lv_aload_n hx hb d_Calls_holdBodyFrom_3 rfl (lv_at hl 1 rfl) ?_
      refine va_get (D := D) (v := .int n) (C := "ColonMachine$Calls") (T := T_Calls) (N := 5) hx hb hT i_Calls hown hK hP 0 rfl rfl 4 (by decide) (hT _ fl_Calls_24) (fun _ h9 => h9) rfl d_Calls_holdBodyFrom_4 ?_
      refine lv_icmp_ge (tgt := 28) hx hb d_Calls_holdBodyFrom_7 (by decide) (fun c1 => ?_) (fun c1 => ?_)
      · have hF := hF.trans (if_pos c1)
        refine lv_iconst (v := 0) hx hb d_Calls_holdBodyFrom_28 (by decide) ?_
        exact W.zret (v := 0) hx hb hr rfl (fun t ht hW => ⟨⟨_, (), rfl, ⟨hF.symm, (Or.inl rfl)⟩, ⟨by rw [ht]; exact hP, va_K.moved hW.alike hK, hD⟩⟩, hS.F ht⟩) hS.2.2 d_Calls_holdBodyFrom_29
      · have hF := hF.trans (if_neg c1)
        refine lv_aload_n hx hb d_Calls_holdBodyFrom_10 rfl (lv_at hl 1 rfl) ?_
        refine va_get (D := D) (v := .ref ao) (C := "ColonMachine$Calls") (T := T_Calls) (N := 5) hx hb hT i_Calls hown hK hP 0 rfl rfl 0 (by decide) (hT _ fl_Calls_11) (fun _ h9 => h9) rfl d_Calls_holdBodyFrom_11 ?_
        refine lv_iload_n hx hb d_Calls_holdBodyFrom_14 rfl (lv_at hl 0 rfl) ?_
        refine va_iald hx hb hK hP 1 0 rfl rfl (by have := ti_lo v2; have := ti_hi v2; have := ti_lo n; have := ti_hi n; have : Int32.toInt 40 = 40 := rfl; have : Int32.toInt 0 = 0 := rfl; rw [vp_in_iff]; simp only [CellsOk, CallsOk, TextOk, MemOk, OutOk, Int32.lt_iff_toInt_lt, Int32.le_iff_toInt_le, ← Int32.toInt_inj, Int32.toInt_add, Int32.toInt_sub, Int32.toInt_mul, Int32.toInt_neg, zbm, zbm'] at c1 hi hw ⊢; omega) d_Calls_holdBodyFrom_15 ?_
        refine lv_iload_n hx hb d_Calls_holdBodyFrom_16 rfl (lv_at hl 2 rfl) ?_
        refine lv_icmp_lt (tgt := 22) hx hb d_Calls_holdBodyFrom_17 (by decide) (fun c2 => ?_) (fun c2 => ?_)
        · have hF := hF.trans (if_pos c2)
          refine lv_iinc (v := v2 + 1) (lv' := [(2, .int (v2 + 1)), (0, .ref h), (1, .int x1)]) hx hb d_Calls_holdBodyFrom_22 hl (k := 0) rfl rfl (by decide) rfl (fun ls hl => ?_)
          refine lv_goto (tgt := 2) hx hb d_Calls_holdBodyFrom_25 (by decide) ?_
          exact ih (v2 + 1) (by have := ti_lo v2; have := ti_hi v2; have := ti_lo n; have := ti_hi n; have := ti_lo x1; have := ti_hi x1; have : Int32.toInt 1 = 1 := rfl; have : Int32.toInt 0 = 0 := rfl; simp only [CellsOk, CallsOk, TextOk, MemOk, OutOk, Int32.lt_iff_toInt_lt, Int32.le_iff_toInt_le, ← Int32.toInt_inj, Int32.toInt_add, Int32.toInt_sub, Int32.toInt_mul, Int32.toInt_neg, zbm, zbm'] at c1 c2 hi hw hk ⊢; omega) (by have := ti_lo v2; have := ti_hi v2; have := ti_lo n; have := ti_hi n; have := ti_lo x1; have := ti_hi x1; have : Int32.toInt 0 = 0 := rfl; have : Int32.toInt 1 = 1 := rfl; simp only [CellsOk, CallsOk, TextOk, MemOk, OutOk, Int32.lt_iff_toInt_lt, Int32.le_iff_toInt_le, ← Int32.toInt_inj, Int32.toInt_add, Int32.toInt_sub, Int32.toInt_mul, Int32.toInt_neg, zbm, zbm'] at c1 c2 hi hw ⊢; omega) _ _ _ hP hD hS (lv_sub hl [0, 1, 2] rfl) hF
        · have hF := hF.trans (if_neg c2)
          refine lv_iconst (v := 1) hx hb d_Calls_holdBodyFrom_20 (by decide) ?_
          exact W.zret (v := 1) hx hb hr rfl (fun t ht hW => ⟨⟨_, (), rfl, ⟨hF.symm, (Or.inr rfl)⟩, ⟨by rw [ht]; exact hP, va_K.moved hW.alike hK, hD⟩⟩, hS.F ht⟩) hS.2.2 d_Calls_holdBodyFrom_21
  exact loop (((n.toInt - (0 : Int32).toInt).toNat) + 1) 0 (Nat.lt_succ_self _) (by have := ti_lo n; have := ti_hi n; have : Int32.toInt 0 = 0 := rfl; simp only [CellsOk, CallsOk, TextOk, MemOk, OutOk, Int32.lt_iff_toInt_lt, Int32.le_iff_toInt_le, ← Int32.toInt_inj, Int32.toInt_add, Int32.toInt_sub, Int32.toInt_mul, Int32.toInt_neg, zbm, zbm'] at hi ⊢; omega) _ _ _ hP hD hS (lv_sub hl [0, 1, 2] rfl) hF
def F_Calls_latestCatch_L7 (fo : Nat → Int32) : Nat → (Int32) → Int32
  | 0, _ => 0
  | k7 + 1, v1 => if v1 < 0 then (-1) else (if (fo v1.toNatClampNeg) = (-1) then v1 else (F_Calls_latestCatch_L7 fo k7 (v1 + (-1))))
theorem F_Calls_latestCatch_L7_s (fo : Nat → Int32) (k7 : Nat) (v1 : Int32) : F_Calls_latestCatch_L7 fo (k7 + 1) v1 = if v1 < 0 then (-1) else (if (fo v1.toNatClampNeg) = (-1) then v1 else (F_Calls_latestCatch_L7 fo k7 (v1 + (-1)))) := rfl
/-- the picture of ColonMachine$Calls.latestCatch -/
def F_Calls_latestCatch (n : Int32) (fo : Nat → Int32) : Int32 := F_Calls_latestCatch_L7 fo ((((n - 1).toInt + 1).toNat) + 1) (n - 1)
theorem F_Calls_latestCatch_e (n : Int32) (fo : Nat → Int32) : F_Calls_latestCatch n fo = F_Calls_latestCatch_L7 fo ((((n - 1).toInt + 1).toNat) + 1) (n - 1) := rfl
set_option maxHeartbeats 4000000 in
set_option maxRecDepth 100000 in
theorem c_Calls_latestCatch (l : Launch) (D : va_G) (cI : ClassId) (sz : Nat) (h : Nat) (ao : Nat) (ap : Nat) (ar : Nat) (ad : Nat) (n : Int32) (fo : Nat → Int32) (hi : CallsOk n) : Met l y_Calls_latestCatch w_Calls_latestCatch ({ frames := 0, cells := 0, slots := 0, locals := 0 }) (va_Pc [.ref h] (zP D classes (TY cI) [(h, .inr (0, [.ref ao, .ref ap, .ref ar, .ref ad, .int n])), (ao, .inl (cI, 40, .inl fo))] sz)) (va_Qi (fun (r : Int32) (_ : Unit) => r = F_Calls_latestCatch n fo ∧ (True)) (fun _ => zB D classes (TY cI) (va_A [(h, .inr (0, [.ref ao, .ref ap, .ref ar, .ref ad, .int n])), (ao, .inl (cI, 40, .inl fo))] sz) [(h, .inr (0, [.ref ao, .ref ap, .ref ar, .ref ad, .int n])), (ao, .inl (cI, 40, .inl fo))]) (va_A [(h, .inr (0, [.ref ao, .ref ap, .ref ar, .ref ad, .int n])), (ao, .inl (cI, 40, .inl fo))] sz)) 0 0 (va_A [(h, .inr (0, [.ref ao, .ref ap, .ref ar, .ref ad, .int n])), (ao, .inl (cI, 40, .inl fo))] sz) := by
  refine Met.ofW (cc := b_Calls_latestCatch) (maxL := 2) (ret := (some .int)) (by decide) rfl ?_
  intro p e s m args below meth c s₁ B hml hv
  obtain ⟨rfl, hsz, hP, hK, hD0⟩ := hv
  have hx := B.exec
  have hb := B.bytes
  have hr := B.returns
  have hts := atoms_spec (ws := w_Calls_latestCatch) B.pre
  have hT : ∀ w ∈ TB, w.before _ s = true := fun w h => hts w (List.mem_cons_of_mem _ h)
  have hown : s.vm.findClass "ColonMachine$Calls" = some m.cls := findClass_of_methodNamed B.named
  have hlocks := B.notSynchronized
  subst hsz
  have hD := hD0.self (sz := s.heap.size)
  generalize hAe : va_A [(h, .inr (0, [.ref ao, .ref ap, .ref ar, .ref ad, .int n])), (ao, .inl (cI, 40, .inl fo))] s.heap.size = A at hD ⊢
  have hA : ∀ q : Nat, s.heap.size ≤ q → A q := fun q h => by rw [← hAe]; exact Or.inr h
  have hS : va_S A s.heap s.heap [] := va_S.rf
  have hl := lv_entry [.ref h] (n := 2) (Nat.le_of_ble_eq_true rfl)
  rw [lg_entry_eq]
  generalize (lg_sl [.ref h] ++ List.replicate (2 - (lg_sl [.ref h]).length) Slot.unset).toArray = ls at hl ⊢
  have hl : lv_has ls 2 [(0, .ref h)] := hl
  have hF := F_Calls_latestCatch_e n fo
  refine lv_aload_n hx hb d_Calls_latestCatch_0 rfl (lv_at hl 0 rfl) ?_
  refine va_get (D := D) (v := .int n) (C := "ColonMachine$Calls") (T := T_Calls) (N := 5) hx hb hT i_Calls hown hK hP 0 rfl rfl 4 (by decide) (hT _ fl_Calls_24) (fun _ h9 => h9) rfl d_Calls_latestCatch_1 ?_
  refine lv_iconst (v := 1) hx hb d_Calls_latestCatch_4 (by decide) ?_
  refine lv_isub hx hb d_Calls_latestCatch_5 ?_
  refine lv_istore_n (lv' := [(1, .int (n - 1)), (0, .ref h)]) hx hb d_Calls_latestCatch_6 rfl hl (by decide) rfl (fun ls hl => ?_)
  have loop : ∀ (k7 : Nat) (v1 : Int32) (hk : (v1.toInt + 1).toNat < k7) (hw : v1.toInt < n.toInt) (hw2 : -1 ≤ v1.toInt) (H : Heap) (locs : List Loc) (ls : Array Slot) (hP : va_P D classes [(h, .inr (0, [.ref ao, .ref ap, .ref ar, .ref ad, .int n])), (ao, .inl (cI, 40, .inl fo))] H) (hD : va_D A [(h, .inr (0, [.ref ao, .ref ap, .ref ar, .ref ad, .int n])), (ao, .inl (cI, 40, .inl fo))]) (hS : va_S A s.heap H locs) (hl : lv_has ls 2 [(1, .int v1), (0, .ref h)]) (hF : F_Calls_latestCatch n fo = F_Calls_latestCatch_L7 fo k7 v1), W p l e (headSpec w_Calls_latestCatch ({ frames := 0, cells := 0, slots := 0, locals := 0 })).room s m (List.toArray [.ref h]) below meth c H locs 0 0 (MQ below (va_Qi (fun (r : Int32) (_ : Unit) => r = F_Calls_latestCatch n fo ∧ (True)) (fun _ => zB D classes (TY cI) A [(h, .inr (0, [.ref ao, .ref ap, .ref ar, .ref ad, .int n])), (ao, .inl (cI, 40, .inl fo))]) A) (List.toArray [.ref h]) s 0 0 A) (F0 m 7 ls []) := by
    intro k7
    induction k7 with
    | zero => intro v1 hk; exact absurd hk (Nat.not_lt_zero _)
    | succ k7 ih =>
      intro v1 hk hw hw2 H locs ls hP hD hS hl hF
      have hF := hF.trans (F_Calls_latestCatch_L7_s fo k7 v1)
      refine lv_iload_n hx hb d_Calls_latestCatch_7 rfl (lv_at hl 0 rfl) ?_
      refine lv_if_lt (tgt := 29) hx hb d_Calls_latestCatch_8 (by decide) (fun c1 => ?_) (fun c1 => ?_)
      · have hF := hF.trans (if_pos c1)
        refine lv_iconst (v := (-1)) hx hb d_Calls_latestCatch_29 (by decide) ?_
        exact W.iret (v := (-1)) hx hb hr (fun t ht hW => ⟨⟨_, (), rfl, ⟨hF.symm, trivial⟩, ⟨by rw [ht]; exact hP, va_K.moved hW.alike hK, hD⟩⟩, hS.F ht⟩) hS.2.2 d_Calls_latestCatch_30
      · have hF := hF.trans (if_neg c1)
        refine lv_aload_n hx hb d_Calls_latestCatch_11 rfl (lv_at hl 1 rfl) ?_
        refine va_get (D := D) (v := .ref ao) (C := "ColonMachine$Calls") (T := T_Calls) (N := 5) hx hb hT i_Calls hown hK hP 0 rfl rfl 0 (by decide) (hT _ fl_Calls_11) (fun _ h9 => h9) rfl d_Calls_latestCatch_12 ?_
        refine lv_iload_n hx hb d_Calls_latestCatch_15 rfl (lv_at hl 0 rfl) ?_
        refine va_iald hx hb hK hP 1 0 rfl rfl (by have := ti_lo v1; have := ti_hi v1; have := ti_lo n; have := ti_hi n; have : Int32.toInt 40 = 40 := rfl; have : Int32.toInt (-1) = -1 := rfl; have : Int32.toInt 1 = 1 := rfl; have : Int32.toInt 0 = 0 := rfl; rw [vp_in_iff]; simp only [CellsOk, CallsOk, TextOk, MemOk, OutOk, Int32.lt_iff_toInt_lt, Int32.le_iff_toInt_le, ← Int32.toInt_inj, Int32.toInt_add, Int32.toInt_sub, Int32.toInt_mul, Int32.toInt_neg, zbm, zbm'] at c1 hi hw hw2 ⊢; omega) d_Calls_latestCatch_16 ?_
        refine lv_iconst (v := (-1)) hx hb d_Calls_latestCatch_17 (by decide) ?_
        refine lv_icmp_ne (tgt := 23) hx hb d_Calls_latestCatch_18 (by decide) (fun c2 => ?_) (fun c2 => ?_)
        · have hF := hF.trans (if_neg c2)
          refine lv_iinc (v := v1 + (-1)) (lv' := [(1, .int (v1 + (-1))), (0, .ref h)]) hx hb d_Calls_latestCatch_23 hl (k := 0) rfl rfl (by decide) rfl (fun ls hl => ?_)
          refine lv_goto (tgt := 7) hx hb d_Calls_latestCatch_26 (by decide) ?_
          exact ih (v1 + (-1)) (by have := ti_lo v1; have := ti_hi v1; have := ti_lo n; have := ti_hi n; have : Int32.toInt (-1) = -1 := rfl; have : Int32.toInt 1 = 1 := rfl; have : Int32.toInt 0 = 0 := rfl; simp only [CellsOk, CallsOk, TextOk, MemOk, OutOk, Int32.lt_iff_toInt_lt, Int32.le_iff_toInt_le, ← Int32.toInt_inj, Int32.toInt_add, Int32.toInt_sub, Int32.toInt_mul, Int32.toInt_neg, zbm, zbm'] at c1 c2 hi hw hw2 hk ⊢; omega) (by have := ti_lo v1; have := ti_hi v1; have := ti_lo n; have := ti_hi n; have : Int32.toInt (-1) = -1 := rfl; have : Int32.toInt 1 = 1 := rfl; have : Int32.toInt 0 = 0 := rfl; simp only [CellsOk, CallsOk, TextOk, MemOk, OutOk, Int32.lt_iff_toInt_lt, Int32.le_iff_toInt_le, ← Int32.toInt_inj, Int32.toInt_add, Int32.toInt_sub, Int32.toInt_mul, Int32.toInt_neg, zbm, zbm'] at c1 c2 hi hw hw2 ⊢; omega) (by have := ti_lo v1; have := ti_hi v1; have := ti_lo n; have := ti_hi n; have : Int32.toInt (-1) = -1 := rfl; have : Int32.toInt 1 = 1 := rfl; have : Int32.toInt 0 = 0 := rfl; simp only [CellsOk, CallsOk, TextOk, MemOk, OutOk, Int32.lt_iff_toInt_lt, Int32.le_iff_toInt_le, ← Int32.toInt_inj, Int32.toInt_add, Int32.toInt_sub, Int32.toInt_mul, Int32.toInt_neg, zbm, zbm'] at c1 c2 hi hw hw2 ⊢; omega) _ _ _ hP hD hS (lv_sub hl [0, 1] rfl) hF
        · have hF := hF.trans (if_pos c2)
          refine lv_iload_n hx hb d_Calls_latestCatch_21 rfl (lv_at hl 0 rfl) ?_
          exact W.iret (v := v1) hx hb hr (fun t ht hW => ⟨⟨_, (), rfl, ⟨hF.symm, trivial⟩, ⟨by rw [ht]; exact hP, va_K.moved hW.alike hK, hD⟩⟩, hS.F ht⟩) hS.2.2 d_Calls_latestCatch_22
  exact loop ((((n - 1).toInt + 1).toNat) + 1) (n - 1) (Nat.lt_succ_self _) (by have := ti_lo n; have := ti_hi n; have : Int32.toInt 1 = 1 := rfl; simp only [CellsOk, CallsOk, TextOk, MemOk, OutOk, Int32.lt_iff_toInt_lt, Int32.le_iff_toInt_le, ← Int32.toInt_inj, Int32.toInt_add, Int32.toInt_sub, Int32.toInt_mul, Int32.toInt_neg, zbm, zbm'] at hi ⊢; omega) (by have := ti_lo n; have := ti_hi n; have : Int32.toInt (-1) = -1 := rfl; have : Int32.toInt 1 = 1 := rfl; simp only [CellsOk, CallsOk, TextOk, MemOk, OutOk, Int32.lt_iff_toInt_lt, Int32.le_iff_toInt_le, ← Int32.toInt_inj, Int32.toInt_add, Int32.toInt_sub, Int32.toInt_mul, Int32.toInt_neg, zbm, zbm'] at hi ⊢; omega) _ _ _ hP hD hS (lv_sub hl [0, 1] rfl) hF
/-- the picture of ColonMachine$Calls.returnsAt -/
def F_Calls_returnsAt (n : Int32) (fr : Nat → Int32) (x1 : Int32) : Int32 := if x1 < 0 then 0 else (if n ≤ x1 then 0 else (fr x1.toNatClampNeg))
theorem F_Calls_returnsAt_e (n : Int32) (fr : Nat → Int32) (x1 : Int32) : F_Calls_returnsAt n fr x1 = if x1 < 0 then 0 else (if n ≤ x1 then 0 else (fr x1.toNatClampNeg)) := rfl
set_option maxHeartbeats 4000000 in
set_option maxRecDepth 100000 in
theorem c_Calls_returnsAt (l : Launch) (D : va_G) (cI : ClassId) (sz : Nat) (h : Nat) (ao : Nat) (ap : Nat) (ar : Nat) (ad : Nat) (n : Int32) (fr : Nat → Int32) (x1 : Int32) (hi : CallsOk n) : Met l y_Calls_returnsAt w_Calls_returnsAt ({ frames := 0, cells := 0, slots := 0, locals := 0 }) (va_Pc [.ref h, .int x1] (zP D classes (TY cI) [(h, .inr (0, [.ref ao, .ref ap, .ref ar, .ref ad, .int n])), (ar, .inl (cI, 40, .inl fr))] sz)) (va_Qi (fun (r : Int32) (_ : Unit) => r = F_Calls_returnsAt n fr x1 ∧ (True)) (fun _ => zB D classes (TY cI) (va_A [(h, .inr (0, [.ref ao, .ref ap, .ref ar, .ref ad, .int n])), (ar, .inl (cI, 40, .inl fr))] sz) [(h, .inr (0, [.ref ao, .ref ap, .ref ar, .ref ad, .int n])), (ar, .inl (cI, 40, .inl fr))]) (va_A [(h, .inr (0, [.ref ao, .ref ap, .ref ar, .ref ad, .int n])), (ar, .inl (cI, 40, .inl fr))] sz)) 0 0 (va_A [(h, .inr (0, [.ref ao, .ref ap, .ref ar, .ref ad, .int n])), (ar, .inl (cI, 40, .inl fr))] sz) := by
  refine Met.ofW (cc := b_Calls_returnsAt) (maxL := 2) (ret := (some .int)) (by decide) rfl ?_
  intro p e s m args below meth c s₁ B hml hv
  obtain ⟨rfl, hsz, hP, hK, hD0⟩ := hv
  have hx := B.exec
  have hb := B.bytes
  have hr := B.returns
  have hts := atoms_spec (ws := w_Calls_returnsAt) B.pre
  have hT : ∀ w ∈ TB, w.before _ s = true := fun w h => hts w (List.mem_cons_of_mem _ h)
  have hown : s.vm.findClass "ColonMachine$Calls" = some m.cls := findClass_of_methodNamed B.named
  have hlocks := B.notSynchronized
  subst hsz
  have hD := hD0.self (sz := s.heap.size)
  generalize hAe : va_A [(h, .inr (0, [.ref ao, .ref ap, .ref ar, .ref ad, .int n])), (ar, .inl (cI, 40, .inl fr))] s.heap.size = A at hD ⊢
  have hA : ∀ q : Nat, s.heap.size ≤ q → A q := fun q h => by rw [← hAe]; exact Or.inr h
  have hS : va_S A s.heap s.heap [] := va_S.rf
  have hl := lv_entry [.ref h, .int x1] (n := 2) (Nat.le_of_ble_eq_true rfl)
  rw [lg_entry_eq]
  generalize (lg_sl [.ref h, .int x1] ++ List.replicate (2 - (lg_sl [.ref h, .int x1]).length) Slot.unset).toArray = ls at hl ⊢
  have hl : lv_has ls 2 [(0, .ref h), (1, .int x1)] := hl
  have hF := F_Calls_returnsAt_e n fr x1
  refine lv_iload_n hx hb d_Calls_returnsAt_0 rfl (lv_at hl 1 rfl) ?_
  refine lv_if_lt (tgt := 21) hx hb d_Calls_returnsAt_1 (by decide) (fun c1 => ?_) (fun c1 => ?_)
  · have hF := hF.trans (if_pos c1)
    refine lv_iconst (v := 0) hx hb d_Calls_returnsAt_21 (by decide) ?_
    exact W.iret (v := 0) hx hb hr (fun t ht hW => ⟨⟨_, (), rfl, ⟨hF.symm, trivial⟩, ⟨by rw [ht]; exact hP, va_K.moved hW.alike hK, hD⟩⟩, hS.F ht⟩) hS.2.2 d_Calls_returnsAt_22
  · have hF := hF.trans (if_neg c1)
    refine lv_iload_n hx hb d_Calls_returnsAt_4 rfl (lv_at hl 1 rfl) ?_
    refine lv_aload_n hx hb d_Calls_returnsAt_5 rfl (lv_at hl 0 rfl) ?_
    refine va_get (D := D) (v := .int n) (C := "ColonMachine$Calls") (T := T_Calls) (N := 5) hx hb hT i_Calls hown hK hP 0 rfl rfl 4 (by decide) (hT _ fl_Calls_24) (fun _ h9 => h9) rfl d_Calls_returnsAt_6 ?_
    refine lv_icmp_ge (tgt := 21) hx hb d_Calls_returnsAt_9 (by decide) (fun c2 => ?_) (fun c2 => ?_)
    · have hF := hF.trans (if_pos c2)
      refine lv_iconst (v := 0) hx hb d_Calls_returnsAt_21 (by decide) ?_
      exact W.iret (v := 0) hx hb hr (fun t ht hW => ⟨⟨_, (), rfl, ⟨hF.symm, trivial⟩, ⟨by rw [ht]; exact hP, va_K.moved hW.alike hK, hD⟩⟩, hS.F ht⟩) hS.2.2 d_Calls_returnsAt_22
    · have hF := hF.trans (if_neg c2)
      refine lv_aload_n hx hb d_Calls_returnsAt_12 rfl (lv_at hl 0 rfl) ?_
      refine va_get (D := D) (v := .ref ar) (C := "ColonMachine$Calls") (T := T_Calls) (N := 5) hx hb hT i_Calls hown hK hP 0 rfl rfl 2 (by decide) (hT _ fl_Calls_18) (fun _ h9 => h9) rfl d_Calls_returnsAt_13 ?_
      refine lv_iload_n hx hb d_Calls_returnsAt_16 rfl (lv_at hl 1 rfl) ?_
      refine va_iald hx hb hK hP 1 0 rfl rfl (by have := ti_lo x1; have := ti_hi x1; have := ti_lo n; have := ti_hi n; have : Int32.toInt 40 = 40 := rfl; have : Int32.toInt 0 = 0 := rfl; rw [vp_in_iff]; simp only [CellsOk, CallsOk, TextOk, MemOk, OutOk, Int32.lt_iff_toInt_lt, Int32.le_iff_toInt_le, ← Int32.toInt_inj, Int32.toInt_add, Int32.toInt_sub, Int32.toInt_mul, Int32.toInt_neg, zbm, zbm'] at c1 c2 hi ⊢; omega) d_Calls_returnsAt_17 ?_
      refine lv_goto (tgt := 22) hx hb d_Calls_returnsAt_18 (by decide) ?_
      exact W.iret (v := fr x1.toNatClampNeg) hx hb hr (fun t ht hW => ⟨⟨_, (), rfl, ⟨hF.symm, trivial⟩, ⟨by rw [ht]; exact hP, va_K.moved hW.alike hK, hD⟩⟩, hS.F ht⟩) hS.2.2 d_Calls_returnsAt_22
/-- the picture of ColonMachine$Calls.dataAt -/
def F_Calls_dataAt (n : Int32) (fd : Nat → Int32) (x1 : Int32) : Int32 := if x1 < 0 then 0 else (if n ≤ x1 then 0 else (fd x1.toNatClampNeg))
theorem F_Calls_dataAt_e (n : Int32) (fd : Nat → Int32) (x1 : Int32) : F_Calls_dataAt n fd x1 = if x1 < 0 then 0 else (if n ≤ x1 then 0 else (fd x1.toNatClampNeg)) := rfl
set_option maxHeartbeats 4000000 in
set_option maxRecDepth 100000 in
theorem c_Calls_dataAt (l : Launch) (D : va_G) (cI : ClassId) (sz : Nat) (h : Nat) (ao : Nat) (ap : Nat) (ar : Nat) (ad : Nat) (n : Int32) (fd : Nat → Int32) (x1 : Int32) (hi : CallsOk n) : Met l y_Calls_dataAt w_Calls_dataAt ({ frames := 0, cells := 0, slots := 0, locals := 0 }) (va_Pc [.ref h, .int x1] (zP D classes (TY cI) [(h, .inr (0, [.ref ao, .ref ap, .ref ar, .ref ad, .int n])), (ad, .inl (cI, 40, .inl fd))] sz)) (va_Qi (fun (r : Int32) (_ : Unit) => r = F_Calls_dataAt n fd x1 ∧ (True)) (fun _ => zB D classes (TY cI) (va_A [(h, .inr (0, [.ref ao, .ref ap, .ref ar, .ref ad, .int n])), (ad, .inl (cI, 40, .inl fd))] sz) [(h, .inr (0, [.ref ao, .ref ap, .ref ar, .ref ad, .int n])), (ad, .inl (cI, 40, .inl fd))]) (va_A [(h, .inr (0, [.ref ao, .ref ap, .ref ar, .ref ad, .int n])), (ad, .inl (cI, 40, .inl fd))] sz)) 0 0 (va_A [(h, .inr (0, [.ref ao, .ref ap, .ref ar, .ref ad, .int n])), (ad, .inl (cI, 40, .inl fd))] sz) := by
  refine Met.ofW (cc := b_Calls_dataAt) (maxL := 2) (ret := (some .int)) (by decide) rfl ?_
  intro p e s m args below meth c s₁ B hml hv
  obtain ⟨rfl, hsz, hP, hK, hD0⟩ := hv
  have hx := B.exec
  have hb := B.bytes
  have hr := B.returns
  have hts := atoms_spec (ws := w_Calls_dataAt) B.pre
  have hT : ∀ w ∈ TB, w.before _ s = true := fun w h => hts w (List.mem_cons_of_mem _ h)
  have hown : s.vm.findClass "ColonMachine$Calls" = some m.cls := findClass_of_methodNamed B.named
  have hlocks := B.notSynchronized
  subst hsz
  have hD := hD0.self (sz := s.heap.size)
  generalize hAe : va_A [(h, .inr (0, [.ref ao, .ref ap, .ref ar, .ref ad, .int n])), (ad, .inl (cI, 40, .inl fd))] s.heap.size = A at hD ⊢
  have hA : ∀ q : Nat, s.heap.size ≤ q → A q := fun q h => by rw [← hAe]; exact Or.inr h
  have hS : va_S A s.heap s.heap [] := va_S.rf
  have hl := lv_entry [.ref h, .int x1] (n := 2) (Nat.le_of_ble_eq_true rfl)
  rw [lg_entry_eq]
  generalize (lg_sl [.ref h, .int x1] ++ List.replicate (2 - (lg_sl [.ref h, .int x1]).length) Slot.unset).toArray = ls at hl ⊢
  have hl : lv_has ls 2 [(0, .ref h), (1, .int x1)] := hl
  have hF := F_Calls_dataAt_e n fd x1
  refine lv_iload_n hx hb d_Calls_dataAt_0 rfl (lv_at hl 1 rfl) ?_
  refine lv_if_lt (tgt := 21) hx hb d_Calls_dataAt_1 (by decide) (fun c1 => ?_) (fun c1 => ?_)
  · have hF := hF.trans (if_pos c1)
    refine lv_iconst (v := 0) hx hb d_Calls_dataAt_21 (by decide) ?_
    exact W.iret (v := 0) hx hb hr (fun t ht hW => ⟨⟨_, (), rfl, ⟨hF.symm, trivial⟩, ⟨by rw [ht]; exact hP, va_K.moved hW.alike hK, hD⟩⟩, hS.F ht⟩) hS.2.2 d_Calls_dataAt_22
  · have hF := hF.trans (if_neg c1)
    refine lv_iload_n hx hb d_Calls_dataAt_4 rfl (lv_at hl 1 rfl) ?_
    refine lv_aload_n hx hb d_Calls_dataAt_5 rfl (lv_at hl 0 rfl) ?_
    refine va_get (D := D) (v := .int n) (C := "ColonMachine$Calls") (T := T_Calls) (N := 5) hx hb hT i_Calls hown hK hP 0 rfl rfl 4 (by decide) (hT _ fl_Calls_24) (fun _ h9 => h9) rfl d_Calls_dataAt_6 ?_
    refine lv_icmp_ge (tgt := 21) hx hb d_Calls_dataAt_9 (by decide) (fun c2 => ?_) (fun c2 => ?_)
    · have hF := hF.trans (if_pos c2)
      refine lv_iconst (v := 0) hx hb d_Calls_dataAt_21 (by decide) ?_
      exact W.iret (v := 0) hx hb hr (fun t ht hW => ⟨⟨_, (), rfl, ⟨hF.symm, trivial⟩, ⟨by rw [ht]; exact hP, va_K.moved hW.alike hK, hD⟩⟩, hS.F ht⟩) hS.2.2 d_Calls_dataAt_22
    · have hF := hF.trans (if_neg c2)
      refine lv_aload_n hx hb d_Calls_dataAt_12 rfl (lv_at hl 0 rfl) ?_
      refine va_get (D := D) (v := .ref ad) (C := "ColonMachine$Calls") (T := T_Calls) (N := 5) hx hb hT i_Calls hown hK hP 0 rfl rfl 3 (by decide) (hT _ fl_Calls_21) (fun _ h9 => h9) rfl d_Calls_dataAt_13 ?_
      refine lv_iload_n hx hb d_Calls_dataAt_16 rfl (lv_at hl 1 rfl) ?_
      refine va_iald hx hb hK hP 1 0 rfl rfl (by have := ti_lo x1; have := ti_hi x1; have := ti_lo n; have := ti_hi n; have : Int32.toInt 40 = 40 := rfl; have : Int32.toInt 0 = 0 := rfl; rw [vp_in_iff]; simp only [CellsOk, CallsOk, TextOk, MemOk, OutOk, Int32.lt_iff_toInt_lt, Int32.le_iff_toInt_le, ← Int32.toInt_inj, Int32.toInt_add, Int32.toInt_sub, Int32.toInt_mul, Int32.toInt_neg, zbm, zbm'] at c1 c2 hi ⊢; omega) d_Calls_dataAt_17 ?_
      refine lv_goto (tgt := 22) hx hb d_Calls_dataAt_18 (by decide) ?_
      exact W.iret (v := fd x1.toNatClampNeg) hx hb hr (fun t ht hW => ⟨⟨_, (), rfl, ⟨hF.symm, trivial⟩, ⟨by rw [ht]; exact hP, va_K.moved hW.alike hK, hD⟩⟩, hS.F ht⟩) hS.2.2 d_Calls_dataAt_22
end
