theorem co_Mod_init : (Jvm.Cond.code ({ cls := "ColonMachineModel", name := "<init>", desc := "()V" } : Jvm.MethodName) prog_13_method_1_code (1 : Nat) (Option.none : Option Jvm.ClassFile.FieldType)) ∈ TB := tbI7 _ (List.mem_of_getElem? (i := 57) rfl) rfl
theorem ml_Mod_1 : (Jvm.Cond.methodLink "ColonMachineModel" (1 : Nat) ({ cls := "java/lang/Object", name := "<init>", desc := "()V" } : Jvm.MethodName)) ∈ TB := tbI7 _ (List.mem_of_getElem? (i := 58) rfl) rfl
theorem ac_long : (Jvm.Cond.arrayClass Jvm.ClassFile.FieldType.long) ∈ TB := tbI8 _ (List.mem_of_getElem? (i := 56) rfl) rfl
theorem cl_Mod_7 : (Jvm.Cond.constantLong "ColonMachineModel" (7 : Nat) (7370084 : Int64)) ∈ TB := tbI7 _ (List.mem_of_getElem? (i := 59) rfl) rfl
theorem cl_Mod_9 : (Jvm.Cond.constantLong "ColonMachineModel" (9 : Nat) (1886351972 : Int64)) ∈ TB := tbI7 _ (List.mem_of_getElem? (i := 60) rfl) rfl
theorem cl_Mod_11 : (Jvm.Cond.constantLong "ColonMachineModel" (11 : Nat) (1885435763 : Int64)) ∈ TB := tbI7 _ (List.mem_of_getElem? (i := 61) rfl) rfl
theorem cl_Mod_13 : (Jvm.Cond.constantLong "ColonMachineModel" (13 : Nat) (1919252079 : Int64)) ∈ TB := tbI7 _ (List.mem_of_getElem? (i := 62) rfl) rfl
theorem cl_Mod_15 : (Jvm.Cond.constantLong "ColonMachineModel" (15 : Nat) (7630706 : Int64)) ∈ TB := tbI7 _ (List.mem_of_getElem? (i := 63) rfl) rfl
theorem cl_Mod_17 : (Jvm.Cond.constantLong "ColonMachineModel" (17 : Nat) (7367022 : Int64)) ∈ TB := tbI7 _ (List.mem_of_getElem? (i := 64) rfl) rfl
theorem cl_Mod_19 : (Jvm.Cond.constantLong "ColonMachineModel" (19 : Nat) (1801680244 : Int64)) ∈ TB := tbI7 _ (List.mem_of_getElem? (i := 65) rfl) rfl
theorem cl_Mod_21 : (Jvm.Cond.constantLong "ColonMachineModel" (21 : Nat) (1886741567 : Int64)) ∈ TB := tbI7 _ (List.mem_of_getElem? (i := 66) rfl) rfl
theorem cl_Mod_23 : (Jvm.Cond.constantLong "ColonMachineModel" (23 : Nat) (1801677168 : Int64)) ∈ TB := tbI7 _ (List.mem_of_getElem? (i := 67) rfl) rfl
theorem cl_Mod_25 : (Jvm.Cond.constantLong "ColonMachineModel" (25 : Nat) (448630121828 : Int64)) ∈ TB := tbI7 _ (List.mem_of_getElem? (i := 68) rfl) rfl
theorem cl_Mod_27 : (Jvm.Cond.constantLong "ColonMachineModel" (27 : Nat) (1886741554 : Int64)) ∈ TB := tbI7 _ (List.mem_of_getElem? (i := 69) rfl) rfl
theorem cl_Mod_29 : (Jvm.Cond.constantLong "ColonMachineModel" (29 : Nat) (482906104882 : Int64)) ∈ TB := tbI7 _ (List.mem_of_getElem? (i := 70) rfl) rfl
theorem cl_Mod_31 : (Jvm.Cond.constantLong "ColonMachineModel" (31 : Nat) (43 : Int64)) ∈ TB := tbI7 _ (List.mem_of_getElem? (i := 71) rfl) rfl
theorem cl_Mod_33 : (Jvm.Cond.constantLong "ColonMachineModel" (33 : Nat) (45 : Int64)) ∈ TB := tbI7 _ (List.mem_of_getElem? (i := 72) rfl) rfl
theorem cl_Mod_35 : (Jvm.Cond.constantLong "ColonMachineModel" (35 : Nat) (42 : Int64)) ∈ TB := tbI7 _ (List.mem_of_getElem? (i := 73) rfl) rfl
theorem cl_Mod_37 : (Jvm.Cond.constantLong "ColonMachineModel" (37 : Nat) (47 : Int64)) ∈ TB := tbI7 _ (List.mem_of_getElem? (i := 74) rfl) rfl
theorem cl_Mod_39 : (Jvm.Cond.constantLong "ColonMachineModel" (39 : Nat) (6582125 : Int64)) ∈ TB := tbI7 _ (List.mem_of_getElem? (i := 75) rfl) rfl
theorem cl_Mod_41 : (Jvm.Cond.constantLong "ColonMachineModel" (41 : Nat) (1685024047 : Int64)) ∈ TB := tbI7 _ (List.mem_of_getElem? (i := 76) rfl) rfl
theorem cl_Mod_43 : (Jvm.Cond.constantLong "ColonMachineModel" (43 : Nat) (12074 : Int64)) ∈ TB := tbI7 _ (List.mem_of_getElem? (i := 77) rfl) rfl
theorem cl_Mod_45 : (Jvm.Cond.constantLong "ColonMachineModel" (45 : Nat) (111550524777838 : Int64)) ∈ TB := tbI7 _ (List.mem_of_getElem? (i := 78) rfl) rfl
theorem cl_Mod_47 : (Jvm.Cond.constantLong "ColonMachineModel" (47 : Nat) (7561825 : Int64)) ∈ TB := tbI7 _ (List.mem_of_getElem? (i := 79) rfl) rfl
theorem cl_Mod_49 : (Jvm.Cond.constantLong "ColonMachineModel" (49 : Nat) (7235949 : Int64)) ∈ TB := tbI7 _ (List.mem_of_getElem? (i := 80) rfl) rfl
theorem cl_Mod_51 : (Jvm.Cond.constantLong "ColonMachineModel" (51 : Nat) (7889261 : Int64)) ∈ TB := tbI7 _ (List.mem_of_getElem? (i := 81) rfl) rfl
theorem cl_Mod_53 : (Jvm.Cond.constantLong "ColonMachineModel" (53 : Nat) (11057 : Int64)) ∈ TB := tbI7 _ (List.mem_of_getElem? (i := 82) rfl) rfl
theorem cl_Mod_55 : (Jvm.Cond.constantLong "ColonMachineModel" (55 : Nat) (11569 : Int64)) ∈ TB := tbI7 _ (List.mem_of_getElem? (i := 83) rfl) rfl
theorem cl_Mod_57 : (Jvm.Cond.constantLong "ColonMachineModel" (57 : Nat) (10802 : Int64)) ∈ TB := tbI7 _ (List.mem_of_getElem? (i := 84) rfl) rfl
theorem cl_Mod_59 : (Jvm.Cond.constantLong "ColonMachineModel" (59 : Nat) (12082 : Int64)) ∈ TB := tbI7 _ (List.mem_of_getElem? (i := 85) rfl) rfl
theorem cl_Mod_61 : (Jvm.Cond.constantLong "ColonMachineModel" (61 : Nat) (6581857 : Int64)) ∈ TB := tbI7 _ (List.mem_of_getElem? (i := 86) rfl) rfl
theorem cl_Mod_63 : (Jvm.Cond.constantLong "ColonMachineModel" (63 : Nat) (29295 : Int64)) ∈ TB := tbI7 _ (List.mem_of_getElem? (i := 87) rfl) rfl
theorem cl_Mod_65 : (Jvm.Cond.constantLong "ColonMachineModel" (65 : Nat) (7499640 : Int64)) ∈ TB := tbI7 _ (List.mem_of_getElem? (i := 88) rfl) rfl
theorem cl_Mod_67 : (Jvm.Cond.constantLong "ColonMachineModel" (67 : Nat) (128034677354089 : Int64)) ∈ TB := tbI7 _ (List.mem_of_getElem? (i := 89) rfl) rfl
theorem cl_Mod_69 : (Jvm.Cond.constantLong "ColonMachineModel" (69 : Nat) (127983203939180 : Int64)) ∈ TB := tbI7 _ (List.mem_of_getElem? (i := 90) rfl) rfl
theorem cl_Mod_71 : (Jvm.Cond.constantLong "ColonMachineModel" (71 : Nat) (127983203939186 : Int64)) ∈ TB := tbI7 _ (List.mem_of_getElem? (i := 91) rfl) rfl
theorem cl_Mod_73 : (Jvm.Cond.constantLong "ColonMachineModel" (73 : Nat) (61 : Int64)) ∈ TB := tbI7 _ (List.mem_of_getElem? (i := 92) rfl) rfl
theorem cl_Mod_75 : (Jvm.Cond.constantLong "ColonMachineModel" (75 : Nat) (15932 : Int64)) ∈ TB := tbI7 _ (List.mem_of_getElem? (i := 93) rfl) rfl
theorem cl_Mod_77 : (Jvm.Cond.constantLong "ColonMachineModel" (77 : Nat) (60 : Int64)) ∈ TB := tbI7 _ (List.mem_of_getElem? (i := 94) rfl) rfl
theorem fl_Mod_79 : (Jvm.Cond.fieldLink "ColonMachineModel" (79 : Nat) "ColonMachineModel" "namesA" "[J") ∈ TB := tbI7 _ (List.mem_of_getElem? (i := 151) rfl) rfl
theorem cl_Mod_85 : (Jvm.Cond.constantLong "ColonMachineModel" (85 : Nat) (62 : Int64)) ∈ TB := tbI7 _ (List.mem_of_getElem? (i := 95) rfl) rfl
theorem cl_Mod_87 : (Jvm.Cond.constantLong "ColonMachineModel" (87 : Nat) (15477 : Int64)) ∈ TB := tbI7 _ (List.mem_of_getElem? (i := 96) rfl) rfl
theorem cl_Mod_89 : (Jvm.Cond.constantLong "ColonMachineModel" (89 : Nat) (15664 : Int64)) ∈ TB := tbI7 _ (List.mem_of_getElem? (i := 97) rfl) rfl
theorem cl_Mod_91 : (Jvm.Cond.constantLong "ColonMachineModel" (91 : Nat) (15408 : Int64)) ∈ TB := tbI7 _ (List.mem_of_getElem? (i := 98) rfl) rfl
theorem cl_Mod_93 : (Jvm.Cond.constantLong "ColonMachineModel" (93 : Nat) (29246 : Int64)) ∈ TB := tbI7 _ (List.mem_of_getElem? (i := 99) rfl) rfl
theorem cl_Mod_95 : (Jvm.Cond.constantLong "ColonMachineModel" (95 : Nat) (15986 : Int64)) ∈ TB := tbI7 _ (List.mem_of_getElem? (i := 100) rfl) rfl
theorem cl_Mod_97 : (Jvm.Cond.constantLong "ColonMachineModel" (97 : Nat) (16498 : Int64)) ∈ TB := tbI7 _ (List.mem_of_getElem? (i := 101) rfl) rfl
theorem cl_Mod_99 : (Jvm.Cond.constantLong "ColonMachineModel" (99 : Nat) (64 : Int64)) ∈ TB := tbI7 _ (List.mem_of_getElem? (i := 102) rfl) rfl
theorem cl_Mod_101 : (Jvm.Cond.constantLong "ColonMachineModel" (101 : Nat) (33 : Int64)) ∈ TB := tbI7 _ (List.mem_of_getElem? (i := 103) rfl) rfl
theorem cl_Mod_103 : (Jvm.Cond.constantLong "ColonMachineModel" (103 : Nat) (8491 : Int64)) ∈ TB := tbI7 _ (List.mem_of_getElem? (i := 104) rfl) rfl
theorem cl_Mod_105 : (Jvm.Cond.constantLong "ColonMachineModel" (105 : Nat) (44 : Int64)) ∈ TB := tbI7 _ (List.mem_of_getElem? (i := 105) rfl) rfl
theorem cl_Mod_107 : (Jvm.Cond.constantLong "ColonMachineModel" (107 : Nat) (500085582945 : Int64)) ∈ TB := tbI7 _ (List.mem_of_getElem? (i := 106) rfl) rfl
theorem cl_Mod_109 : (Jvm.Cond.constantLong "ColonMachineModel" (109 : Nat) (1701995880 : Int64)) ∈ TB := tbI7 _ (List.mem_of_getElem? (i := 107) rfl) rfl
theorem cl_Mod_111 : (Jvm.Cond.constantLong "ColonMachineModel" (111 : Nat) (1702060386 : Int64)) ∈ TB := tbI7 _ (List.mem_of_getElem? (i := 108) rfl) rfl
theorem cl_Mod_113 : (Jvm.Cond.constantLong "ColonMachineModel" (113 : Nat) (46 : Int64)) ∈ TB := tbI7 _ (List.mem_of_getElem? (i := 109) rfl) rfl
theorem cl_Mod_115 : (Jvm.Cond.constantLong "ColonMachineModel" (115 : Nat) (11893 : Int64)) ∈ TB := tbI7 _ (List.mem_of_getElem? (i := 110) rfl) rfl
theorem cl_Mod_117 : (Jvm.Cond.constantLong "ColonMachineModel" (117 : Nat) (1953066341 : Int64)) ∈ TB := tbI7 _ (List.mem_of_getElem? (i := 111) rfl) rfl
theorem cl_Mod_119 : (Jvm.Cond.constantLong "ColonMachineModel" (119 : Nat) (29283 : Int64)) ∈ TB := tbI7 _ (List.mem_of_getElem? (i := 112) rfl) rfl
theorem cl_Mod_121 : (Jvm.Cond.constantLong "ColonMachineModel" (121 : Nat) (435459027059 : Int64)) ∈ TB := tbI7 _ (List.mem_of_getElem? (i := 113) rfl) rfl
theorem cl_Mod_123 : (Jvm.Cond.constantLong "ColonMachineModel" (123 : Nat) (28557020175366245 : Int64)) ∈ TB := tbI7 _ (List.mem_of_getElem? (i := 114) rfl) rfl
theorem cl_Mod_125 : (Jvm.Cond.constantLong "ColonMachineModel" (125 : Nat) (448345170275 : Int64)) ∈ TB := tbI7 _ (List.mem_of_getElem? (i := 115) rfl) rfl
theorem cl_Mod_127 : (Jvm.Cond.constantLong "ColonMachineModel" (127 : Nat) (512970877044 : Int64)) ∈ TB := tbI7 _ (List.mem_of_getElem? (i := 116) rfl) rfl
theorem cl_Mod_129 : (Jvm.Cond.constantLong "ColonMachineModel" (129 : Nat) (7310575174828190817 : Int64)) ∈ TB := tbI7 _ (List.mem_of_getElem? (i := 117) rfl) rfl
theorem cl_Mod_131 : (Jvm.Cond.constantLong "ColonMachineModel" (131 : Nat) (1701147238 : Int64)) ∈ TB := tbI7 _ (List.mem_of_getElem? (i := 118) rfl) rfl
theorem cl_Mod_133 : (Jvm.Cond.constantLong "ColonMachineModel" (133 : Nat) (111576429585778 : Int64)) ∈ TB := tbI7 _ (List.mem_of_getElem? (i := 119) rfl) rfl
theorem cl_Mod_135 : (Jvm.Cond.constantLong "ColonMachineModel" (135 : Nat) (105 : Int64)) ∈ TB := tbI7 _ (List.mem_of_getElem? (i := 120) rfl) rfl
theorem cl_Mod_137 : (Jvm.Cond.constantLong "ColonMachineModel" (137 : Nat) (106 : Int64)) ∈ TB := tbI7 _ (List.mem_of_getElem? (i := 121) rfl) rfl
theorem cl_Mod_139 : (Jvm.Cond.constantLong "ColonMachineModel" (139 : Nat) (123623913057909 : Int64)) ∈ TB := tbI7 _ (List.mem_of_getElem? (i := 122) rfl) rfl
theorem cl_Mod_141 : (Jvm.Cond.constantLong "ColonMachineModel" (141 : Nat) (1953069157 : Int64)) ∈ TB := tbI7 _ (List.mem_of_getElem? (i := 123) rfl) rfl
theorem cl_Mod_143 : (Jvm.Cond.constantLong "ColonMachineModel" (143 : Nat) (111550524650083 : Int64)) ∈ TB := tbI7 _ (List.mem_of_getElem? (i := 124) rfl) rfl
theorem cl_Mod_145 : (Jvm.Cond.constantLong "ColonMachineModel" (145 : Nat) (7308324465835925878 : Int64)) ∈ TB := tbI7 _ (List.mem_of_getElem? (i := 125) rfl) rfl
theorem cl_Mod_147 : (Jvm.Cond.constantLong "ColonMachineModel" (147 : Nat) (8389750308618530659 : Int64)) ∈ TB := tbI7 _ (List.mem_of_getElem? (i := 126) rfl) rfl
theorem cl_Mod_149 : (Jvm.Cond.constantLong "ColonMachineModel" (149 : Nat) (125779919921517 : Int64)) ∈ TB := tbI7 _ (List.mem_of_getElem? (i := 127) rfl) rfl
theorem cl_Mod_151 : (Jvm.Cond.constantLong "ColonMachineModel" (151 : Nat) (39 : Int64)) ∈ TB := tbI7 _ (List.mem_of_getElem? (i := 128) rfl) rfl
theorem cl_Mod_153 : (Jvm.Cond.constantLong "ColonMachineModel" (153 : Nat) (8386099861059890537 : Int64)) ∈ TB := tbI7 _ (List.mem_of_getElem? (i := 129) rfl) rfl
theorem fl_Mod_155 : (Jvm.Cond.fieldLink "ColonMachineModel" (155 : Nat) "ColonMachineModel" "namesB" "[J") ∈ TB := tbI7 _ (List.mem_of_getElem? (i := 152) rfl) rfl
theorem fl_Mod_158 : (Jvm.Cond.fieldLink "ColonMachineModel" (158 : Nat) "ColonMachineModel" "cellsA" "[I") ∈ TB := tbI7 _ (List.mem_of_getElem? (i := 153) rfl) rfl
theorem fl_Mod_162 : (Jvm.Cond.fieldLink "ColonMachineModel" (162 : Nat) "ColonMachineModel" "cellsB" "[I") ∈ TB := tbI7 _ (List.mem_of_getElem? (i := 154) rfl) rfl
theorem cl_Mod_165 : (Jvm.Cond.constantLong "ColonMachineModel" (165 : Nat) (58 : Int64)) ∈ TB := tbI7 _ (List.mem_of_getElem? (i := 130) rfl) rfl
theorem cl_Mod_167 : (Jvm.Cond.constantLong "ColonMachineModel" (167 : Nat) (59 : Int64)) ∈ TB := tbI7 _ (List.mem_of_getElem? (i := 131) rfl) rfl
theorem cl_Mod_169 : (Jvm.Cond.constantLong "ColonMachineModel" (169 : Nat) (40 : Int64)) ∈ TB := tbI7 _ (List.mem_of_getElem? (i := 132) rfl) rfl
theorem cl_Mod_171 : (Jvm.Cond.constantLong "ColonMachineModel" (171 : Nat) (92 : Int64)) ∈ TB := tbI7 _ (List.mem_of_getElem? (i := 133) rfl) rfl
theorem cl_Mod_173 : (Jvm.Cond.constantLong "ColonMachineModel" (173 : Nat) (8750 : Int64)) ∈ TB := tbI7 _ (List.mem_of_getElem? (i := 134) rfl) rfl
theorem cl_Mod_175 : (Jvm.Cond.constantLong "ColonMachineModel" (175 : Nat) (6104923 : Int64)) ∈ TB := tbI7 _ (List.mem_of_getElem? (i := 135) rfl) rfl
theorem cl_Mod_177 : (Jvm.Cond.constantLong "ColonMachineModel" (177 : Nat) (28555908080690546 : Int64)) ∈ TB := tbI7 _ (List.mem_of_getElem? (i := 136) rfl) rfl
theorem cl_Mod_179 : (Jvm.Cond.constantLong "ColonMachineModel" (179 : Nat) (26217 : Int64)) ∈ TB := tbI7 _ (List.mem_of_getElem? (i := 137) rfl) rfl
theorem cl_Mod_181 : (Jvm.Cond.constantLong "ColonMachineModel" (181 : Nat) (1702063205 : Int64)) ∈ TB := tbI7 _ (List.mem_of_getElem? (i := 138) rfl) rfl
theorem cl_Mod_183 : (Jvm.Cond.constantLong "ColonMachineModel" (183 : Nat) (1852139636 : Int64)) ∈ TB := tbI7 _ (List.mem_of_getElem? (i := 139) rfl) rfl
theorem cl_Mod_185 : (Jvm.Cond.constantLong "ColonMachineModel" (185 : Nat) (474214786402 : Int64)) ∈ TB := tbI7 _ (List.mem_of_getElem? (i := 140) rfl) rfl
theorem cl_Mod_187 : (Jvm.Cond.constantLong "ColonMachineModel" (187 : Nat) (465625706101 : Int64)) ∈ TB := tbI7 _ (List.mem_of_getElem? (i := 141) rfl) rfl
theorem cl_Mod_189 : (Jvm.Cond.constantLong "ColonMachineModel" (189 : Nat) (474214393697 : Int64)) ∈ TB := tbI7 _ (List.mem_of_getElem? (i := 142) rfl) rfl
theorem cl_Mod_191 : (Jvm.Cond.constantLong "ColonMachineModel" (191 : Nat) (435610544247 : Int64)) ∈ TB := tbI7 _ (List.mem_of_getElem? (i := 143) rfl) rfl
theorem cl_Mod_193 : (Jvm.Cond.constantLong "ColonMachineModel" (193 : Nat) (127961662514546 : Int64)) ∈ TB := tbI7 _ (List.mem_of_getElem? (i := 144) rfl) rfl
theorem cl_Mod_195 : (Jvm.Cond.constantLong "ColonMachineModel" (195 : Nat) (28516 : Int64)) ∈ TB := tbI7 _ (List.mem_of_getElem? (i := 145) rfl) rfl
theorem cl_Mod_197 : (Jvm.Cond.constantLong "ColonMachineModel" (197 : Nat) (7300159 : Int64)) ∈ TB := tbI7 _ (List.mem_of_getElem? (i := 146) rfl) rfl
theorem cl_Mod_199 : (Jvm.Cond.constantLong "ColonMachineModel" (199 : Nat) (1886351212 : Int64)) ∈ TB := tbI7 _ (List.mem_of_getElem? (i := 147) rfl) rfl
theorem cl_Mod_201 : (Jvm.Cond.constantLong "ColonMachineModel" (201 : Nat) (482905910315 : Int64)) ∈ TB := tbI7 _ (List.mem_of_getElem? (i := 148) rfl) rfl
theorem cl_Mod_203 : (Jvm.Cond.constantLong "ColonMachineModel" (203 : Nat) (435777791340 : Int64)) ∈ TB := tbI7 _ (List.mem_of_getElem? (i := 149) rfl) rfl
theorem cl_Mod_205 : (Jvm.Cond.constantLong "ColonMachineModel" (205 : Nat) (268223999844 : Int64)) ∈ TB := tbI7 _ (List.mem_of_getElem? (i := 150) rfl) rfl
theorem fl_Mod_207 : (Jvm.Cond.fieldLink "ColonMachineModel" (207 : Nat) "ColonMachineModel" "specials" "[J") ∈ TB := tbI7 _ (List.mem_of_getElem? (i := 155) rfl) rfl
theorem fl_Mod_210 : (Jvm.Cond.fieldLink "ColonMachineModel" (210 : Nat) "ColonMachineModel" "data" "[I") ∈ TB := tbI7 _ (List.mem_of_getElem? (i := 156) rfl) rfl
theorem fl_Mod_213 : (Jvm.Cond.fieldLink "ColonMachineModel" (213 : Nat) "ColonMachineModel" "returns" "[I") ∈ TB := tbI7 _ (List.mem_of_getElem? (i := 158) rfl) rfl
theorem fl_Mod_216 : (Jvm.Cond.fieldLink "ColonMachineModel" (216 : Nat) "ColonMachineModel" "memory" "[I") ∈ TB := tbI7 _ (List.mem_of_getElem? (i := 160) rfl) rfl
theorem fl_Mod_219 : (Jvm.Cond.fieldLink "ColonMachineModel" (219 : Nat) "ColonMachineModel" "here" "I") ∈ TB := tbI7 _ (List.mem_of_getElem? (i := 161) rfl) rfl
theorem fl_Mod_223 : (Jvm.Cond.fieldLink "ColonMachineModel" (223 : Nat) "ColonMachineModel" "blockAt" "[I") ∈ TB := tbI7 _ (List.mem_of_getElem? (i := 163) rfl) rfl
theorem fl_Mod_226 : (Jvm.Cond.fieldLink "ColonMachineModel" (226 : Nat) "ColonMachineModel" "blockSize" "[I") ∈ TB := tbI7 _ (List.mem_of_getElem? (i := 164) rfl) rfl
theorem fl_Mod_229 : (Jvm.Cond.fieldLink "ColonMachineModel" (229 : Nat) "ColonMachineModel" "name" "[J") ∈ TB := tbI7 _ (List.mem_of_getElem? (i := 166) rfl) rfl
theorem fl_Mod_232 : (Jvm.Cond.fieldLink "ColonMachineModel" (232 : Nat) "ColonMachineModel" "kind" "[I") ∈ TB := tbI7 _ (List.mem_of_getElem? (i := 167) rfl) rfl
theorem fl_Mod_235 : (Jvm.Cond.fieldLink "ColonMachineModel" (235 : Nat) "ColonMachineModel" "value" "[I") ∈ TB := tbI7 _ (List.mem_of_getElem? (i := 168) rfl) rfl
theorem fl_Mod_238 : (Jvm.Cond.fieldLink "ColonMachineModel" (238 : Nat) "ColonMachineModel" "behaviour" "[I") ∈ TB := tbI7 _ (List.mem_of_getElem? (i := 169) rfl) rfl
theorem fl_Mod_241 : (Jvm.Cond.fieldLink "ColonMachineModel" (241 : Nat) "ColonMachineModel" "behaviourAt" "[I") ∈ TB := tbI7 _ (List.mem_of_getElem? (i := 170) rfl) rfl
theorem ac_boolean : (Jvm.Cond.arrayClass Jvm.ClassFile.FieldType.boolean) ∈ TB := tbI8 _ (List.mem_of_getElem? (i := 57) rfl) rfl
theorem fl_Mod_244 : (Jvm.Cond.fieldLink "ColonMachineModel" (244 : Nat) "ColonMachineModel" "immediate" "[Z") ∈ TB := tbI7 _ (List.mem_of_getElem? (i := 171) rfl) rfl
theorem fl_Mod_248 : (Jvm.Cond.fieldLink "ColonMachineModel" (248 : Nat) "ColonMachineModel" "saidAt" "[I") ∈ TB := tbI7 _ (List.mem_of_getElem? (i := 172) rfl) rfl
theorem fl_Mod_251 : (Jvm.Cond.fieldLink "ColonMachineModel" (251 : Nat) "ColonMachineModel" "bodySize" "[I") ∈ TB := tbI7 _ (List.mem_of_getElem? (i := 173) rfl) rfl
theorem fl_Mod_254 : (Jvm.Cond.fieldLink "ColonMachineModel" (254 : Nat) "ColonMachineModel" "op" "[I") ∈ TB := tbI7 _ (List.mem_of_getElem? (i := 174) rfl) rfl
theorem fl_Mod_257 : (Jvm.Cond.fieldLink "ColonMachineModel" (257 : Nat) "ColonMachineModel" "argument" "[I") ∈ TB := tbI7 _ (List.mem_of_getElem? (i := 175) rfl) rfl
theorem fl_Mod_260 : (Jvm.Cond.fieldLink "ColonMachineModel" (260 : Nat) "ColonMachineModel" "length" "[I") ∈ TB := tbI7 _ (List.mem_of_getElem? (i := 176) rfl) rfl
theorem fl_Mod_263 : (Jvm.Cond.fieldLink "ColonMachineModel" (263 : Nat) "ColonMachineModel" "sayings" "[I") ∈ TB := tbI7 _ (List.mem_of_getElem? (i := 178) rfl) rfl
theorem fl_Mod_266 : (Jvm.Cond.fieldLink "ColonMachineModel" (266 : Nat) "ColonMachineModel" "callBody" "[I") ∈ TB := tbI7 _ (List.mem_of_getElem? (i := 180) rfl) rfl
theorem fl_Mod_269 : (Jvm.Cond.fieldLink "ColonMachineModel" (269 : Nat) "ColonMachineModel" "callAt" "[I") ∈ TB := tbI7 _ (List.mem_of_getElem? (i := 181) rfl) rfl
theorem fl_Mod_272 : (Jvm.Cond.fieldLink "ColonMachineModel" (272 : Nat) "ColonMachineModel" "callCells" "[I") ∈ TB := tbI7 _ (List.mem_of_getElem? (i := 182) rfl) rfl
theorem fl_Mod_275 : (Jvm.Cond.fieldLink "ColonMachineModel" (275 : Nat) "ColonMachineModel" "callReturns" "[I") ∈ TB := tbI7 _ (List.mem_of_getElem? (i := 183) rfl) rfl
theorem fl_Mod_278 : (Jvm.Cond.fieldLink "ColonMachineModel" (278 : Nat) "ColonMachineModel" "text" "[I") ∈ TB := tbI7 _ (List.mem_of_getElem? (i := 186) rfl) rfl
theorem fl_Mod_281 : (Jvm.Cond.fieldLink "ColonMachineModel" (281 : Nat) "ColonMachineModel" "out" "[I") ∈ TB := tbI7 _ (List.mem_of_getElem? (i := 188) rfl) rfl
theorem fl_Mod_284 : (Jvm.Cond.fieldLink "ColonMachineModel" (284 : Nat) "ColonMachineModel" "gapKind" "[I") ∈ TB := tbI7 _ (List.mem_of_getElem? (i := 191) rfl) rfl
theorem fl_Mod_287 : (Jvm.Cond.fieldLink "ColonMachineModel" (287 : Nat) "ColonMachineModel" "gapAt" "[I") ∈ TB := tbI7 _ (List.mem_of_getElem? (i := 192) rfl) rfl
abbrev b_Mod_init : ByteArray := prog_13_method_1_code
def y_Mod_init : MethodName := { cls := "ColonMachineModel", name := "<init>", desc := "()V" }
abbrev w_Mod_init : List Cond := .code y_Mod_init b_Mod_init 1 (Option.none : Option Jvm.ClassFile.FieldType) :: TB
theorem d_Mod_init_0 : decode b_Mod_init 0 = .ok (.aload_n 0, 1) := by decide +kernel
theorem d_Mod_init_1 : decode b_Mod_init 1 = .ok (.invokespecial 1, 3) := by decide +kernel
theorem d_Mod_init_4 : decode b_Mod_init 4 = .ok (.aload_n 0, 1) := by decide +kernel
theorem d_Mod_init_5 : decode b_Mod_init 5 = .ok (.bipush 36, 2) := by decide +kernel
theorem d_Mod_init_7 : decode b_Mod_init 7 = .ok (.newarray .long, 2) := by decide +kernel
theorem d_Mod_init_9 : decode b_Mod_init 9 = .ok (.dup, 1) := by decide +kernel
theorem d_Mod_init_10 : decode b_Mod_init 10 = .ok (.iconst 0, 1) := by decide +kernel
theorem d_Mod_init_11 : decode b_Mod_init 11 = .ok (.ldc2_w 7, 3) := by decide +kernel
theorem d_Mod_init_14 : decode b_Mod_init 14 = .ok (.lastore, 1) := by decide +kernel
theorem d_Mod_init_15 : decode b_Mod_init 15 = .ok (.dup, 1) := by decide +kernel
theorem d_Mod_init_16 : decode b_Mod_init 16 = .ok (.iconst 1, 1) := by decide +kernel
theorem d_Mod_init_17 : decode b_Mod_init 17 = .ok (.ldc2_w 9, 3) := by decide +kernel
theorem d_Mod_init_20 : decode b_Mod_init 20 = .ok (.lastore, 1) := by decide +kernel
theorem d_Mod_init_21 : decode b_Mod_init 21 = .ok (.dup, 1) := by decide +kernel
theorem d_Mod_init_22 : decode b_Mod_init 22 = .ok (.iconst 2, 1) := by decide +kernel
theorem d_Mod_init_23 : decode b_Mod_init 23 = .ok (.ldc2_w 11, 3) := by decide +kernel
theorem d_Mod_init_26 : decode b_Mod_init 26 = .ok (.lastore, 1) := by decide +kernel
theorem d_Mod_init_27 : decode b_Mod_init 27 = .ok (.dup, 1) := by decide +kernel
theorem d_Mod_init_28 : decode b_Mod_init 28 = .ok (.iconst 3, 1) := by decide +kernel
theorem d_Mod_init_29 : decode b_Mod_init 29 = .ok (.ldc2_w 13, 3) := by decide +kernel
theorem d_Mod_init_32 : decode b_Mod_init 32 = .ok (.lastore, 1) := by decide +kernel
theorem d_Mod_init_33 : decode b_Mod_init 33 = .ok (.dup, 1) := by decide +kernel
theorem d_Mod_init_34 : decode b_Mod_init 34 = .ok (.iconst 4, 1) := by decide +kernel
theorem d_Mod_init_35 : decode b_Mod_init 35 = .ok (.ldc2_w 15, 3) := by decide +kernel
theorem d_Mod_init_38 : decode b_Mod_init 38 = .ok (.lastore, 1) := by decide +kernel
theorem d_Mod_init_39 : decode b_Mod_init 39 = .ok (.dup, 1) := by decide +kernel
theorem d_Mod_init_40 : decode b_Mod_init 40 = .ok (.iconst 5, 1) := by decide +kernel
theorem d_Mod_init_41 : decode b_Mod_init 41 = .ok (.ldc2_w 17, 3) := by decide +kernel
theorem d_Mod_init_44 : decode b_Mod_init 44 = .ok (.lastore, 1) := by decide +kernel
theorem d_Mod_init_45 : decode b_Mod_init 45 = .ok (.dup, 1) := by decide +kernel
theorem d_Mod_init_46 : decode b_Mod_init 46 = .ok (.bipush 6, 2) := by decide +kernel
theorem d_Mod_init_48 : decode b_Mod_init 48 = .ok (.ldc2_w 19, 3) := by decide +kernel
theorem d_Mod_init_51 : decode b_Mod_init 51 = .ok (.lastore, 1) := by decide +kernel
theorem d_Mod_init_52 : decode b_Mod_init 52 = .ok (.dup, 1) := by decide +kernel
theorem d_Mod_init_53 : decode b_Mod_init 53 = .ok (.bipush 7, 2) := by decide +kernel
theorem d_Mod_init_55 : decode b_Mod_init 55 = .ok (.ldc2_w 21, 3) := by decide +kernel
theorem d_Mod_init_58 : decode b_Mod_init 58 = .ok (.lastore, 1) := by decide +kernel
theorem d_Mod_init_59 : decode b_Mod_init 59 = .ok (.dup, 1) := by decide +kernel
theorem d_Mod_init_60 : decode b_Mod_init 60 = .ok (.bipush 8, 2) := by decide +kernel
theorem d_Mod_init_62 : decode b_Mod_init 62 = .ok (.ldc2_w 23, 3) := by decide +kernel
theorem d_Mod_init_65 : decode b_Mod_init 65 = .ok (.lastore, 1) := by decide +kernel
theorem d_Mod_init_66 : decode b_Mod_init 66 = .ok (.dup, 1) := by decide +kernel
theorem d_Mod_init_67 : decode b_Mod_init 67 = .ok (.bipush 9, 2) := by decide +kernel
theorem d_Mod_init_69 : decode b_Mod_init 69 = .ok (.ldc2_w 25, 3) := by decide +kernel
theorem d_Mod_init_72 : decode b_Mod_init 72 = .ok (.lastore, 1) := by decide +kernel
theorem d_Mod_init_73 : decode b_Mod_init 73 = .ok (.dup, 1) := by decide +kernel
theorem d_Mod_init_74 : decode b_Mod_init 74 = .ok (.bipush 10, 2) := by decide +kernel
theorem d_Mod_init_76 : decode b_Mod_init 76 = .ok (.ldc2_w 27, 3) := by decide +kernel
theorem d_Mod_init_79 : decode b_Mod_init 79 = .ok (.lastore, 1) := by decide +kernel
theorem d_Mod_init_80 : decode b_Mod_init 80 = .ok (.dup, 1) := by decide +kernel
theorem d_Mod_init_81 : decode b_Mod_init 81 = .ok (.bipush 11, 2) := by decide +kernel
theorem d_Mod_init_83 : decode b_Mod_init 83 = .ok (.ldc2_w 29, 3) := by decide +kernel
theorem d_Mod_init_86 : decode b_Mod_init 86 = .ok (.lastore, 1) := by decide +kernel
theorem d_Mod_init_87 : decode b_Mod_init 87 = .ok (.dup, 1) := by decide +kernel
theorem d_Mod_init_88 : decode b_Mod_init 88 = .ok (.bipush 12, 2) := by decide +kernel
theorem d_Mod_init_90 : decode b_Mod_init 90 = .ok (.ldc2_w 31, 3) := by decide +kernel
theorem d_Mod_init_93 : decode b_Mod_init 93 = .ok (.lastore, 1) := by decide +kernel
theorem d_Mod_init_94 : decode b_Mod_init 94 = .ok (.dup, 1) := by decide +kernel
theorem d_Mod_init_95 : decode b_Mod_init 95 = .ok (.bipush 13, 2) := by decide +kernel
theorem d_Mod_init_97 : decode b_Mod_init 97 = .ok (.ldc2_w 33, 3) := by decide +kernel
theorem d_Mod_init_100 : decode b_Mod_init 100 = .ok (.lastore, 1) := by decide +kernel
theorem d_Mod_init_101 : decode b_Mod_init 101 = .ok (.dup, 1) := by decide +kernel
theorem d_Mod_init_102 : decode b_Mod_init 102 = .ok (.bipush 14, 2) := by decide +kernel
theorem d_Mod_init_104 : decode b_Mod_init 104 = .ok (.ldc2_w 35, 3) := by decide +kernel
theorem d_Mod_init_107 : decode b_Mod_init 107 = .ok (.lastore, 1) := by decide +kernel
theorem d_Mod_init_108 : decode b_Mod_init 108 = .ok (.dup, 1) := by decide +kernel
theorem d_Mod_init_109 : decode b_Mod_init 109 = .ok (.bipush 15, 2) := by decide +kernel
theorem d_Mod_init_111 : decode b_Mod_init 111 = .ok (.ldc2_w 37, 3) := by decide +kernel
theorem d_Mod_init_114 : decode b_Mod_init 114 = .ok (.lastore, 1) := by decide +kernel
theorem d_Mod_init_115 : decode b_Mod_init 115 = .ok (.dup, 1) := by decide +kernel
theorem d_Mod_init_116 : decode b_Mod_init 116 = .ok (.bipush 16, 2) := by decide +kernel
theorem d_Mod_init_118 : decode b_Mod_init 118 = .ok (.ldc2_w 39, 3) := by decide +kernel
theorem d_Mod_init_121 : decode b_Mod_init 121 = .ok (.lastore, 1) := by decide +kernel
theorem d_Mod_init_122 : decode b_Mod_init 122 = .ok (.dup, 1) := by decide +kernel
theorem d_Mod_init_123 : decode b_Mod_init 123 = .ok (.bipush 17, 2) := by decide +kernel
theorem d_Mod_init_125 : decode b_Mod_init 125 = .ok (.ldc2_w 41, 3) := by decide +kernel
theorem d_Mod_init_128 : decode b_Mod_init 128 = .ok (.lastore, 1) := by decide +kernel
theorem d_Mod_init_129 : decode b_Mod_init 129 = .ok (.dup, 1) := by decide +kernel
theorem d_Mod_init_130 : decode b_Mod_init 130 = .ok (.bipush 18, 2) := by decide +kernel
theorem d_Mod_init_132 : decode b_Mod_init 132 = .ok (.ldc2_w 43, 3) := by decide +kernel
theorem d_Mod_init_135 : decode b_Mod_init 135 = .ok (.lastore, 1) := by decide +kernel
theorem d_Mod_init_136 : decode b_Mod_init 136 = .ok (.dup, 1) := by decide +kernel
theorem d_Mod_init_137 : decode b_Mod_init 137 = .ok (.bipush 19, 2) := by decide +kernel
theorem d_Mod_init_139 : decode b_Mod_init 139 = .ok (.ldc2_w 45, 3) := by decide +kernel
theorem d_Mod_init_142 : decode b_Mod_init 142 = .ok (.lastore, 1) := by decide +kernel
theorem d_Mod_init_143 : decode b_Mod_init 143 = .ok (.dup, 1) := by decide +kernel
theorem d_Mod_init_144 : decode b_Mod_init 144 = .ok (.bipush 20, 2) := by decide +kernel
theorem d_Mod_init_146 : decode b_Mod_init 146 = .ok (.ldc2_w 47, 3) := by decide +kernel
theorem d_Mod_init_149 : decode b_Mod_init 149 = .ok (.lastore, 1) := by decide +kernel
theorem d_Mod_init_150 : decode b_Mod_init 150 = .ok (.dup, 1) := by decide +kernel
theorem d_Mod_init_151 : decode b_Mod_init 151 = .ok (.bipush 21, 2) := by decide +kernel
theorem d_Mod_init_153 : decode b_Mod_init 153 = .ok (.ldc2_w 49, 3) := by decide +kernel
theorem d_Mod_init_156 : decode b_Mod_init 156 = .ok (.lastore, 1) := by decide +kernel
theorem d_Mod_init_157 : decode b_Mod_init 157 = .ok (.dup, 1) := by decide +kernel
theorem d_Mod_init_158 : decode b_Mod_init 158 = .ok (.bipush 22, 2) := by decide +kernel
theorem d_Mod_init_160 : decode b_Mod_init 160 = .ok (.ldc2_w 51, 3) := by decide +kernel
theorem d_Mod_init_163 : decode b_Mod_init 163 = .ok (.lastore, 1) := by decide +kernel
theorem d_Mod_init_164 : decode b_Mod_init 164 = .ok (.dup, 1) := by decide +kernel
theorem d_Mod_init_165 : decode b_Mod_init 165 = .ok (.bipush 23, 2) := by decide +kernel
theorem d_Mod_init_167 : decode b_Mod_init 167 = .ok (.ldc2_w 53, 3) := by decide +kernel
theorem d_Mod_init_170 : decode b_Mod_init 170 = .ok (.lastore, 1) := by decide +kernel
theorem d_Mod_init_171 : decode b_Mod_init 171 = .ok (.dup, 1) := by decide +kernel
theorem d_Mod_init_172 : decode b_Mod_init 172 = .ok (.bipush 24, 2) := by decide +kernel
theorem d_Mod_init_174 : decode b_Mod_init 174 = .ok (.ldc2_w 55, 3) := by decide +kernel
theorem d_Mod_init_177 : decode b_Mod_init 177 = .ok (.lastore, 1) := by decide +kernel
theorem d_Mod_init_178 : decode b_Mod_init 178 = .ok (.dup, 1) := by decide +kernel
theorem d_Mod_init_179 : decode b_Mod_init 179 = .ok (.bipush 25, 2) := by decide +kernel
theorem d_Mod_init_181 : decode b_Mod_init 181 = .ok (.ldc2_w 57, 3) := by decide +kernel
theorem d_Mod_init_184 : decode b_Mod_init 184 = .ok (.lastore, 1) := by decide +kernel
theorem d_Mod_init_185 : decode b_Mod_init 185 = .ok (.dup, 1) := by decide +kernel
theorem d_Mod_init_186 : decode b_Mod_init 186 = .ok (.bipush 26, 2) := by decide +kernel
theorem d_Mod_init_188 : decode b_Mod_init 188 = .ok (.ldc2_w 59, 3) := by decide +kernel
theorem d_Mod_init_191 : decode b_Mod_init 191 = .ok (.lastore, 1) := by decide +kernel
theorem d_Mod_init_192 : decode b_Mod_init 192 = .ok (.dup, 1) := by decide +kernel
theorem d_Mod_init_193 : decode b_Mod_init 193 = .ok (.bipush 27, 2) := by decide +kernel
theorem d_Mod_init_195 : decode b_Mod_init 195 = .ok (.ldc2_w 61, 3) := by decide +kernel
theorem d_Mod_init_198 : decode b_Mod_init 198 = .ok (.lastore, 1) := by decide +kernel
theorem d_Mod_init_199 : decode b_Mod_init 199 = .ok (.dup, 1) := by decide +kernel
theorem d_Mod_init_200 : decode b_Mod_init 200 = .ok (.bipush 28, 2) := by decide +kernel
theorem d_Mod_init_202 : decode b_Mod_init 202 = .ok (.ldc2_w 63, 3) := by decide +kernel
theorem d_Mod_init_205 : decode b_Mod_init 205 = .ok (.lastore, 1) := by decide +kernel
theorem d_Mod_init_206 : decode b_Mod_init 206 = .ok (.dup, 1) := by decide +kernel
theorem d_Mod_init_207 : decode b_Mod_init 207 = .ok (.bipush 29, 2) := by decide +kernel
theorem d_Mod_init_209 : decode b_Mod_init 209 = .ok (.ldc2_w 65, 3) := by decide +kernel
theorem d_Mod_init_212 : decode b_Mod_init 212 = .ok (.lastore, 1) := by decide +kernel
theorem d_Mod_init_213 : decode b_Mod_init 213 = .ok (.dup, 1) := by decide +kernel
theorem d_Mod_init_214 : decode b_Mod_init 214 = .ok (.bipush 30, 2) := by decide +kernel
theorem d_Mod_init_216 : decode b_Mod_init 216 = .ok (.ldc2_w 67, 3) := by decide +kernel
theorem d_Mod_init_219 : decode b_Mod_init 219 = .ok (.lastore, 1) := by decide +kernel
theorem d_Mod_init_220 : decode b_Mod_init 220 = .ok (.dup, 1) := by decide +kernel
theorem d_Mod_init_221 : decode b_Mod_init 221 = .ok (.bipush 31, 2) := by decide +kernel
theorem d_Mod_init_223 : decode b_Mod_init 223 = .ok (.ldc2_w 69, 3) := by decide +kernel
theorem d_Mod_init_226 : decode b_Mod_init 226 = .ok (.lastore, 1) := by decide +kernel
theorem d_Mod_init_227 : decode b_Mod_init 227 = .ok (.dup, 1) := by decide +kernel
theorem d_Mod_init_228 : decode b_Mod_init 228 = .ok (.bipush 32, 2) := by decide +kernel
theorem d_Mod_init_230 : decode b_Mod_init 230 = .ok (.ldc2_w 71, 3) := by decide +kernel
theorem d_Mod_init_233 : decode b_Mod_init 233 = .ok (.lastore, 1) := by decide +kernel
theorem d_Mod_init_234 : decode b_Mod_init 234 = .ok (.dup, 1) := by decide +kernel
theorem d_Mod_init_235 : decode b_Mod_init 235 = .ok (.bipush 33, 2) := by decide +kernel
theorem d_Mod_init_237 : decode b_Mod_init 237 = .ok (.ldc2_w 73, 3) := by decide +kernel
theorem d_Mod_init_240 : decode b_Mod_init 240 = .ok (.lastore, 1) := by decide +kernel
theorem d_Mod_init_241 : decode b_Mod_init 241 = .ok (.dup, 1) := by decide +kernel
theorem d_Mod_init_242 : decode b_Mod_init 242 = .ok (.bipush 34, 2) := by decide +kernel
theorem d_Mod_init_244 : decode b_Mod_init 244 = .ok (.ldc2_w 75, 3) := by decide +kernel
theorem d_Mod_init_247 : decode b_Mod_init 247 = .ok (.lastore, 1) := by decide +kernel
theorem d_Mod_init_248 : decode b_Mod_init 248 = .ok (.dup, 1) := by decide +kernel
theorem d_Mod_init_249 : decode b_Mod_init 249 = .ok (.bipush 35, 2) := by decide +kernel
theorem d_Mod_init_251 : decode b_Mod_init 251 = .ok (.ldc2_w 77, 3) := by decide +kernel
theorem d_Mod_init_254 : decode b_Mod_init 254 = .ok (.lastore, 1) := by decide +kernel
theorem d_Mod_init_255 : decode b_Mod_init 255 = .ok (.putfield 79, 3) := by decide +kernel
theorem d_Mod_init_258 : decode b_Mod_init 258 = .ok (.aload_n 0, 1) := by decide +kernel
theorem d_Mod_init_259 : decode b_Mod_init 259 = .ok (.bipush 35, 2) := by decide +kernel
theorem d_Mod_init_261 : decode b_Mod_init 261 = .ok (.newarray .long, 2) := by decide +kernel
theorem d_Mod_init_263 : decode b_Mod_init 263 = .ok (.dup, 1) := by decide +kernel
theorem d_Mod_init_264 : decode b_Mod_init 264 = .ok (.iconst 0, 1) := by decide +kernel
theorem d_Mod_init_265 : decode b_Mod_init 265 = .ok (.ldc2_w 85, 3) := by decide +kernel
theorem d_Mod_init_268 : decode b_Mod_init 268 = .ok (.lastore, 1) := by decide +kernel
theorem d_Mod_init_269 : decode b_Mod_init 269 = .ok (.dup, 1) := by decide +kernel
theorem d_Mod_init_270 : decode b_Mod_init 270 = .ok (.iconst 1, 1) := by decide +kernel
theorem d_Mod_init_271 : decode b_Mod_init 271 = .ok (.ldc2_w 87, 3) := by decide +kernel
theorem d_Mod_init_274 : decode b_Mod_init 274 = .ok (.lastore, 1) := by decide +kernel
theorem d_Mod_init_275 : decode b_Mod_init 275 = .ok (.dup, 1) := by decide +kernel
theorem d_Mod_init_276 : decode b_Mod_init 276 = .ok (.iconst 2, 1) := by decide +kernel
theorem d_Mod_init_277 : decode b_Mod_init 277 = .ok (.ldc2_w 89, 3) := by decide +kernel
theorem d_Mod_init_280 : decode b_Mod_init 280 = .ok (.lastore, 1) := by decide +kernel
theorem d_Mod_init_281 : decode b_Mod_init 281 = .ok (.dup, 1) := by decide +kernel
theorem d_Mod_init_282 : decode b_Mod_init 282 = .ok (.iconst 3, 1) := by decide +kernel
theorem d_Mod_init_283 : decode b_Mod_init 283 = .ok (.ldc2_w 91, 3) := by decide +kernel
theorem d_Mod_init_286 : decode b_Mod_init 286 = .ok (.lastore, 1) := by decide +kernel
theorem d_Mod_init_287 : decode b_Mod_init 287 = .ok (.dup, 1) := by decide +kernel
theorem d_Mod_init_288 : decode b_Mod_init 288 = .ok (.iconst 4, 1) := by decide +kernel
theorem d_Mod_init_289 : decode b_Mod_init 289 = .ok (.ldc2_w 93, 3) := by decide +kernel
theorem d_Mod_init_292 : decode b_Mod_init 292 = .ok (.lastore, 1) := by decide +kernel
theorem d_Mod_init_293 : decode b_Mod_init 293 = .ok (.dup, 1) := by decide +kernel
theorem d_Mod_init_294 : decode b_Mod_init 294 = .ok (.iconst 5, 1) := by decide +kernel
theorem d_Mod_init_295 : decode b_Mod_init 295 = .ok (.ldc2_w 95, 3) := by decide +kernel
theorem d_Mod_init_298 : decode b_Mod_init 298 = .ok (.lastore, 1) := by decide +kernel
theorem d_Mod_init_299 : decode b_Mod_init 299 = .ok (.dup, 1) := by decide +kernel
theorem d_Mod_init_300 : decode b_Mod_init 300 = .ok (.bipush 6, 2) := by decide +kernel
theorem d_Mod_init_302 : decode b_Mod_init 302 = .ok (.ldc2_w 97, 3) := by decide +kernel
theorem d_Mod_init_305 : decode b_Mod_init 305 = .ok (.lastore, 1) := by decide +kernel
theorem d_Mod_init_306 : decode b_Mod_init 306 = .ok (.dup, 1) := by decide +kernel
theorem d_Mod_init_307 : decode b_Mod_init 307 = .ok (.bipush 7, 2) := by decide +kernel
theorem d_Mod_init_309 : decode b_Mod_init 309 = .ok (.ldc2_w 99, 3) := by decide +kernel
theorem d_Mod_init_312 : decode b_Mod_init 312 = .ok (.lastore, 1) := by decide +kernel
theorem d_Mod_init_313 : decode b_Mod_init 313 = .ok (.dup, 1) := by decide +kernel
theorem d_Mod_init_314 : decode b_Mod_init 314 = .ok (.bipush 8, 2) := by decide +kernel
theorem d_Mod_init_316 : decode b_Mod_init 316 = .ok (.ldc2_w 101, 3) := by decide +kernel
theorem d_Mod_init_319 : decode b_Mod_init 319 = .ok (.lastore, 1) := by decide +kernel
theorem d_Mod_init_320 : decode b_Mod_init 320 = .ok (.dup, 1) := by decide +kernel
theorem d_Mod_init_321 : decode b_Mod_init 321 = .ok (.bipush 9, 2) := by decide +kernel
theorem d_Mod_init_323 : decode b_Mod_init 323 = .ok (.ldc2_w 103, 3) := by decide +kernel
theorem d_Mod_init_326 : decode b_Mod_init 326 = .ok (.lastore, 1) := by decide +kernel
theorem d_Mod_init_327 : decode b_Mod_init 327 = .ok (.dup, 1) := by decide +kernel
theorem d_Mod_init_328 : decode b_Mod_init 328 = .ok (.bipush 10, 2) := by decide +kernel
theorem d_Mod_init_330 : decode b_Mod_init 330 = .ok (.ldc2_w 105, 3) := by decide +kernel
theorem d_Mod_init_333 : decode b_Mod_init 333 = .ok (.lastore, 1) := by decide +kernel
theorem d_Mod_init_334 : decode b_Mod_init 334 = .ok (.dup, 1) := by decide +kernel
theorem d_Mod_init_335 : decode b_Mod_init 335 = .ok (.bipush 11, 2) := by decide +kernel
theorem d_Mod_init_337 : decode b_Mod_init 337 = .ok (.ldc2_w 107, 3) := by decide +kernel
theorem d_Mod_init_340 : decode b_Mod_init 340 = .ok (.lastore, 1) := by decide +kernel
theorem d_Mod_init_341 : decode b_Mod_init 341 = .ok (.dup, 1) := by decide +kernel
theorem d_Mod_init_342 : decode b_Mod_init 342 = .ok (.bipush 12, 2) := by decide +kernel
theorem d_Mod_init_344 : decode b_Mod_init 344 = .ok (.ldc2_w 109, 3) := by decide +kernel
theorem d_Mod_init_347 : decode b_Mod_init 347 = .ok (.lastore, 1) := by decide +kernel
theorem d_Mod_init_348 : decode b_Mod_init 348 = .ok (.dup, 1) := by decide +kernel
theorem d_Mod_init_349 : decode b_Mod_init 349 = .ok (.bipush 13, 2) := by decide +kernel
theorem d_Mod_init_351 : decode b_Mod_init 351 = .ok (.ldc2_w 111, 3) := by decide +kernel
theorem d_Mod_init_354 : decode b_Mod_init 354 = .ok (.lastore, 1) := by decide +kernel
theorem d_Mod_init_355 : decode b_Mod_init 355 = .ok (.dup, 1) := by decide +kernel
theorem d_Mod_init_356 : decode b_Mod_init 356 = .ok (.bipush 14, 2) := by decide +kernel
theorem d_Mod_init_358 : decode b_Mod_init 358 = .ok (.ldc2_w 113, 3) := by decide +kernel
theorem d_Mod_init_361 : decode b_Mod_init 361 = .ok (.lastore, 1) := by decide +kernel
theorem d_Mod_init_362 : decode b_Mod_init 362 = .ok (.dup, 1) := by decide +kernel
theorem d_Mod_init_363 : decode b_Mod_init 363 = .ok (.bipush 15, 2) := by decide +kernel
theorem d_Mod_init_365 : decode b_Mod_init 365 = .ok (.ldc2_w 115, 3) := by decide +kernel
theorem d_Mod_init_368 : decode b_Mod_init 368 = .ok (.lastore, 1) := by decide +kernel
theorem d_Mod_init_369 : decode b_Mod_init 369 = .ok (.dup, 1) := by decide +kernel
theorem d_Mod_init_370 : decode b_Mod_init 370 = .ok (.bipush 16, 2) := by decide +kernel
theorem d_Mod_init_372 : decode b_Mod_init 372 = .ok (.ldc2_w 117, 3) := by decide +kernel
theorem d_Mod_init_375 : decode b_Mod_init 375 = .ok (.lastore, 1) := by decide +kernel
theorem d_Mod_init_376 : decode b_Mod_init 376 = .ok (.dup, 1) := by decide +kernel
theorem d_Mod_init_377 : decode b_Mod_init 377 = .ok (.bipush 17, 2) := by decide +kernel
theorem d_Mod_init_379 : decode b_Mod_init 379 = .ok (.ldc2_w 119, 3) := by decide +kernel
theorem d_Mod_init_382 : decode b_Mod_init 382 = .ok (.lastore, 1) := by decide +kernel
theorem d_Mod_init_383 : decode b_Mod_init 383 = .ok (.dup, 1) := by decide +kernel
theorem d_Mod_init_384 : decode b_Mod_init 384 = .ok (.bipush 18, 2) := by decide +kernel
theorem d_Mod_init_386 : decode b_Mod_init 386 = .ok (.ldc2_w 121, 3) := by decide +kernel
theorem d_Mod_init_389 : decode b_Mod_init 389 = .ok (.lastore, 1) := by decide +kernel
theorem d_Mod_init_390 : decode b_Mod_init 390 = .ok (.dup, 1) := by decide +kernel
theorem d_Mod_init_391 : decode b_Mod_init 391 = .ok (.bipush 19, 2) := by decide +kernel
theorem d_Mod_init_393 : decode b_Mod_init 393 = .ok (.ldc2_w 123, 3) := by decide +kernel
theorem d_Mod_init_396 : decode b_Mod_init 396 = .ok (.lastore, 1) := by decide +kernel
theorem d_Mod_init_397 : decode b_Mod_init 397 = .ok (.dup, 1) := by decide +kernel
theorem d_Mod_init_398 : decode b_Mod_init 398 = .ok (.bipush 20, 2) := by decide +kernel
theorem d_Mod_init_400 : decode b_Mod_init 400 = .ok (.ldc2_w 125, 3) := by decide +kernel
theorem d_Mod_init_403 : decode b_Mod_init 403 = .ok (.lastore, 1) := by decide +kernel
theorem d_Mod_init_404 : decode b_Mod_init 404 = .ok (.dup, 1) := by decide +kernel
theorem d_Mod_init_405 : decode b_Mod_init 405 = .ok (.bipush 21, 2) := by decide +kernel
theorem d_Mod_init_407 : decode b_Mod_init 407 = .ok (.ldc2_w 127, 3) := by decide +kernel
theorem d_Mod_init_410 : decode b_Mod_init 410 = .ok (.lastore, 1) := by decide +kernel
theorem d_Mod_init_411 : decode b_Mod_init 411 = .ok (.dup, 1) := by decide +kernel
theorem d_Mod_init_412 : decode b_Mod_init 412 = .ok (.bipush 22, 2) := by decide +kernel
theorem d_Mod_init_414 : decode b_Mod_init 414 = .ok (.ldc2_w 129, 3) := by decide +kernel
theorem d_Mod_init_417 : decode b_Mod_init 417 = .ok (.lastore, 1) := by decide +kernel
theorem d_Mod_init_418 : decode b_Mod_init 418 = .ok (.dup, 1) := by decide +kernel
theorem d_Mod_init_419 : decode b_Mod_init 419 = .ok (.bipush 23, 2) := by decide +kernel
theorem d_Mod_init_421 : decode b_Mod_init 421 = .ok (.ldc2_w 131, 3) := by decide +kernel
theorem d_Mod_init_424 : decode b_Mod_init 424 = .ok (.lastore, 1) := by decide +kernel
theorem d_Mod_init_425 : decode b_Mod_init 425 = .ok (.dup, 1) := by decide +kernel
theorem d_Mod_init_426 : decode b_Mod_init 426 = .ok (.bipush 24, 2) := by decide +kernel
theorem d_Mod_init_428 : decode b_Mod_init 428 = .ok (.ldc2_w 133, 3) := by decide +kernel
theorem d_Mod_init_431 : decode b_Mod_init 431 = .ok (.lastore, 1) := by decide +kernel
theorem d_Mod_init_432 : decode b_Mod_init 432 = .ok (.dup, 1) := by decide +kernel
theorem d_Mod_init_433 : decode b_Mod_init 433 = .ok (.bipush 25, 2) := by decide +kernel
theorem d_Mod_init_435 : decode b_Mod_init 435 = .ok (.ldc2_w 135, 3) := by decide +kernel
theorem d_Mod_init_438 : decode b_Mod_init 438 = .ok (.lastore, 1) := by decide +kernel
theorem d_Mod_init_439 : decode b_Mod_init 439 = .ok (.dup, 1) := by decide +kernel
theorem d_Mod_init_440 : decode b_Mod_init 440 = .ok (.bipush 26, 2) := by decide +kernel
theorem d_Mod_init_442 : decode b_Mod_init 442 = .ok (.ldc2_w 137, 3) := by decide +kernel
theorem d_Mod_init_445 : decode b_Mod_init 445 = .ok (.lastore, 1) := by decide +kernel
theorem d_Mod_init_446 : decode b_Mod_init 446 = .ok (.dup, 1) := by decide +kernel
theorem d_Mod_init_447 : decode b_Mod_init 447 = .ok (.bipush 27, 2) := by decide +kernel
theorem d_Mod_init_449 : decode b_Mod_init 449 = .ok (.ldc2_w 139, 3) := by decide +kernel
theorem d_Mod_init_452 : decode b_Mod_init 452 = .ok (.lastore, 1) := by decide +kernel
theorem d_Mod_init_453 : decode b_Mod_init 453 = .ok (.dup, 1) := by decide +kernel
theorem d_Mod_init_454 : decode b_Mod_init 454 = .ok (.bipush 28, 2) := by decide +kernel
theorem d_Mod_init_456 : decode b_Mod_init 456 = .ok (.ldc2_w 141, 3) := by decide +kernel
theorem d_Mod_init_459 : decode b_Mod_init 459 = .ok (.lastore, 1) := by decide +kernel
theorem d_Mod_init_460 : decode b_Mod_init 460 = .ok (.dup, 1) := by decide +kernel
theorem d_Mod_init_461 : decode b_Mod_init 461 = .ok (.bipush 29, 2) := by decide +kernel
theorem d_Mod_init_463 : decode b_Mod_init 463 = .ok (.ldc2_w 143, 3) := by decide +kernel
theorem d_Mod_init_466 : decode b_Mod_init 466 = .ok (.lastore, 1) := by decide +kernel
theorem d_Mod_init_467 : decode b_Mod_init 467 = .ok (.dup, 1) := by decide +kernel
theorem d_Mod_init_468 : decode b_Mod_init 468 = .ok (.bipush 30, 2) := by decide +kernel
theorem d_Mod_init_470 : decode b_Mod_init 470 = .ok (.ldc2_w 145, 3) := by decide +kernel
theorem d_Mod_init_473 : decode b_Mod_init 473 = .ok (.lastore, 1) := by decide +kernel
theorem d_Mod_init_474 : decode b_Mod_init 474 = .ok (.dup, 1) := by decide +kernel
theorem d_Mod_init_475 : decode b_Mod_init 475 = .ok (.bipush 31, 2) := by decide +kernel
theorem d_Mod_init_477 : decode b_Mod_init 477 = .ok (.ldc2_w 147, 3) := by decide +kernel
theorem d_Mod_init_480 : decode b_Mod_init 480 = .ok (.lastore, 1) := by decide +kernel
theorem d_Mod_init_481 : decode b_Mod_init 481 = .ok (.dup, 1) := by decide +kernel
theorem d_Mod_init_482 : decode b_Mod_init 482 = .ok (.bipush 32, 2) := by decide +kernel
theorem d_Mod_init_484 : decode b_Mod_init 484 = .ok (.ldc2_w 149, 3) := by decide +kernel
theorem d_Mod_init_487 : decode b_Mod_init 487 = .ok (.lastore, 1) := by decide +kernel
theorem d_Mod_init_488 : decode b_Mod_init 488 = .ok (.dup, 1) := by decide +kernel
theorem d_Mod_init_489 : decode b_Mod_init 489 = .ok (.bipush 33, 2) := by decide +kernel
theorem d_Mod_init_491 : decode b_Mod_init 491 = .ok (.ldc2_w 151, 3) := by decide +kernel
theorem d_Mod_init_494 : decode b_Mod_init 494 = .ok (.lastore, 1) := by decide +kernel
theorem d_Mod_init_495 : decode b_Mod_init 495 = .ok (.dup, 1) := by decide +kernel
theorem d_Mod_init_496 : decode b_Mod_init 496 = .ok (.bipush 34, 2) := by decide +kernel
theorem d_Mod_init_498 : decode b_Mod_init 498 = .ok (.ldc2_w 153, 3) := by decide +kernel
theorem d_Mod_init_501 : decode b_Mod_init 501 = .ok (.lastore, 1) := by decide +kernel
theorem d_Mod_init_502 : decode b_Mod_init 502 = .ok (.putfield 155, 3) := by decide +kernel
theorem d_Mod_init_505 : decode b_Mod_init 505 = .ok (.aload_n 0, 1) := by decide +kernel
theorem d_Mod_init_506 : decode b_Mod_init 506 = .ok (.bipush 36, 2) := by decide +kernel
theorem d_Mod_init_508 : decode b_Mod_init 508 = .ok (.newarray .int, 2) := by decide +kernel
theorem d_Mod_init_510 : decode b_Mod_init 510 = .ok (.dup, 1) := by decide +kernel
theorem d_Mod_init_511 : decode b_Mod_init 511 = .ok (.iconst 0, 1) := by decide +kernel
theorem d_Mod_init_512 : decode b_Mod_init 512 = .ok (.bipush 12, 2) := by decide +kernel
theorem d_Mod_init_514 : decode b_Mod_init 514 = .ok (.iastore, 1) := by decide +kernel
theorem d_Mod_init_515 : decode b_Mod_init 515 = .ok (.dup, 1) := by decide +kernel
theorem d_Mod_init_516 : decode b_Mod_init 516 = .ok (.iconst 1, 1) := by decide +kernel
theorem d_Mod_init_517 : decode b_Mod_init 517 = .ok (.bipush 10, 2) := by decide +kernel
theorem d_Mod_init_519 : decode b_Mod_init 519 = .ok (.iastore, 1) := by decide +kernel
theorem d_Mod_init_520 : decode b_Mod_init 520 = .ok (.dup, 1) := by decide +kernel
theorem d_Mod_init_521 : decode b_Mod_init 521 = .ok (.iconst 2, 1) := by decide +kernel
theorem d_Mod_init_522 : decode b_Mod_init 522 = .ok (.bipush 22, 2) := by decide +kernel
theorem d_Mod_init_524 : decode b_Mod_init 524 = .ok (.iastore, 1) := by decide +kernel
theorem d_Mod_init_525 : decode b_Mod_init 525 = .ok (.dup, 1) := by decide +kernel
theorem d_Mod_init_526 : decode b_Mod_init 526 = .ok (.iconst 3, 1) := by decide +kernel
theorem d_Mod_init_527 : decode b_Mod_init 527 = .ok (.bipush 23, 2) := by decide +kernel
theorem d_Mod_init_529 : decode b_Mod_init 529 = .ok (.iastore, 1) := by decide +kernel
theorem d_Mod_init_530 : decode b_Mod_init 530 = .ok (.dup, 1) := by decide +kernel
theorem d_Mod_init_531 : decode b_Mod_init 531 = .ok (.iconst 4, 1) := by decide +kernel
theorem d_Mod_init_532 : decode b_Mod_init 532 = .ok (.bipush 33, 2) := by decide +kernel
theorem d_Mod_init_534 : decode b_Mod_init 534 = .ok (.iastore, 1) := by decide +kernel
theorem d_Mod_init_535 : decode b_Mod_init 535 = .ok (.dup, 1) := by decide +kernel
theorem d_Mod_init_536 : decode b_Mod_init 536 = .ok (.iconst 5, 1) := by decide +kernel
theorem d_Mod_init_537 : decode b_Mod_init 537 = .ok (.bipush 21, 2) := by decide +kernel
theorem d_Mod_init_539 : decode b_Mod_init 539 = .ok (.iastore, 1) := by decide +kernel
theorem d_Mod_init_540 : decode b_Mod_init 540 = .ok (.dup, 1) := by decide +kernel
theorem d_Mod_init_541 : decode b_Mod_init 541 = .ok (.bipush 6, 2) := by decide +kernel
theorem d_Mod_init_543 : decode b_Mod_init 543 = .ok (.bipush 23, 2) := by decide +kernel
theorem d_Mod_init_545 : decode b_Mod_init 545 = .ok (.iastore, 1) := by decide +kernel
theorem d_Mod_init_546 : decode b_Mod_init 546 = .ok (.dup, 1) := by decide +kernel
theorem d_Mod_init_547 : decode b_Mod_init 547 = .ok (.bipush 7, 2) := by decide +kernel
theorem d_Mod_init_549 : decode b_Mod_init 549 = .ok (.bipush 11, 2) := by decide +kernel
theorem d_Mod_init_551 : decode b_Mod_init 551 = .ok (.iastore, 1) := by decide +kernel
theorem d_Mod_init_552 : decode b_Mod_init 552 = .ok (.dup, 1) := by decide +kernel
theorem d_Mod_init_553 : decode b_Mod_init 553 = .ok (.bipush 8, 2) := by decide +kernel
theorem d_Mod_init_555 : decode b_Mod_init 555 = .ok (.bipush 11, 2) := by decide +kernel
theorem d_Mod_init_557 : decode b_Mod_init 557 = .ok (.iastore, 1) := by decide +kernel
theorem d_Mod_init_558 : decode b_Mod_init 558 = .ok (.dup, 1) := by decide +kernel
theorem d_Mod_init_559 : decode b_Mod_init 559 = .ok (.bipush 9, 2) := by decide +kernel
theorem d_Mod_init_561 : decode b_Mod_init 561 = .ok (.iconst 1, 1) := by decide +kernel
theorem d_Mod_init_562 : decode b_Mod_init 562 = .ok (.iastore, 1) := by decide +kernel
theorem d_Mod_init_563 : decode b_Mod_init 563 = .ok (.dup, 1) := by decide +kernel
theorem d_Mod_init_564 : decode b_Mod_init 564 = .ok (.bipush 10, 2) := by decide +kernel
theorem d_Mod_init_566 : decode b_Mod_init 566 = .ok (.bipush 24, 2) := by decide +kernel
theorem d_Mod_init_568 : decode b_Mod_init 568 = .ok (.iastore, 1) := by decide +kernel
theorem d_Mod_init_569 : decode b_Mod_init 569 = .ok (.dup, 1) := by decide +kernel
theorem d_Mod_init_570 : decode b_Mod_init 570 = .ok (.bipush 11, 2) := by decide +kernel
theorem d_Mod_init_572 : decode b_Mod_init 572 = .ok (.bipush 20, 2) := by decide +kernel
theorem d_Mod_init_574 : decode b_Mod_init 574 = .ok (.iastore, 1) := by decide +kernel
theorem d_Mod_init_575 : decode b_Mod_init 575 = .ok (.dup, 1) := by decide +kernel
theorem d_Mod_init_576 : decode b_Mod_init 576 = .ok (.bipush 12, 2) := by decide +kernel
theorem d_Mod_init_578 : decode b_Mod_init 578 = .ok (.bipush 21, 2) := by decide +kernel
theorem d_Mod_init_580 : decode b_Mod_init 580 = .ok (.iastore, 1) := by decide +kernel
theorem d_Mod_init_581 : decode b_Mod_init 581 = .ok (.dup, 1) := by decide +kernel
theorem d_Mod_init_582 : decode b_Mod_init 582 = .ok (.bipush 13, 2) := by decide +kernel
theorem d_Mod_init_584 : decode b_Mod_init 584 = .ok (.bipush 21, 2) := by decide +kernel
theorem d_Mod_init_586 : decode b_Mod_init 586 = .ok (.iastore, 1) := by decide +kernel
theorem d_Mod_init_587 : decode b_Mod_init 587 = .ok (.dup, 1) := by decide +kernel
theorem d_Mod_init_588 : decode b_Mod_init 588 = .ok (.bipush 14, 2) := by decide +kernel
theorem d_Mod_init_590 : decode b_Mod_init 590 = .ok (.bipush 21, 2) := by decide +kernel
theorem d_Mod_init_592 : decode b_Mod_init 592 = .ok (.iastore, 1) := by decide +kernel
theorem d_Mod_init_593 : decode b_Mod_init 593 = .ok (.dup, 1) := by decide +kernel
theorem d_Mod_init_594 : decode b_Mod_init 594 = .ok (.bipush 15, 2) := by decide +kernel
theorem d_Mod_init_596 : decode b_Mod_init 596 = .ok (.bipush 21, 2) := by decide +kernel
theorem d_Mod_init_598 : decode b_Mod_init 598 = .ok (.iastore, 1) := by decide +kernel
theorem d_Mod_init_599 : decode b_Mod_init 599 = .ok (.dup, 1) := by decide +kernel
theorem d_Mod_init_600 : decode b_Mod_init 600 = .ok (.bipush 16, 2) := by decide +kernel
theorem d_Mod_init_602 : decode b_Mod_init 602 = .ok (.bipush 21, 2) := by decide +kernel
theorem d_Mod_init_604 : decode b_Mod_init 604 = .ok (.iastore, 1) := by decide +kernel
theorem d_Mod_init_605 : decode b_Mod_init 605 = .ok (.dup, 1) := by decide +kernel
theorem d_Mod_init_606 : decode b_Mod_init 606 = .ok (.bipush 17, 2) := by decide +kernel
theorem d_Mod_init_608 : decode b_Mod_init 608 = .ok (.bipush 22, 2) := by decide +kernel
theorem d_Mod_init_610 : decode b_Mod_init 610 = .ok (.iastore, 1) := by decide +kernel
theorem d_Mod_init_611 : decode b_Mod_init 611 = .ok (.dup, 1) := by decide +kernel
theorem d_Mod_init_612 : decode b_Mod_init 612 = .ok (.bipush 18, 2) := by decide +kernel
theorem d_Mod_init_614 : decode b_Mod_init 614 = .ok (.bipush 31, 2) := by decide +kernel
theorem d_Mod_init_616 : decode b_Mod_init 616 = .ok (.iastore, 1) := by decide +kernel
theorem d_Mod_init_617 : decode b_Mod_init 617 = .ok (.dup, 1) := by decide +kernel
theorem d_Mod_init_618 : decode b_Mod_init 618 = .ok (.bipush 19, 2) := by decide +kernel
theorem d_Mod_init_620 : decode b_Mod_init 620 = .ok (.bipush 11, 2) := by decide +kernel
theorem d_Mod_init_622 : decode b_Mod_init 622 = .ok (.iastore, 1) := by decide +kernel
theorem d_Mod_init_623 : decode b_Mod_init 623 = .ok (.dup, 1) := by decide +kernel
theorem d_Mod_init_624 : decode b_Mod_init 624 = .ok (.bipush 20, 2) := by decide +kernel
theorem d_Mod_init_626 : decode b_Mod_init 626 = .ok (.bipush 11, 2) := by decide +kernel
theorem d_Mod_init_628 : decode b_Mod_init 628 = .ok (.iastore, 1) := by decide +kernel
theorem d_Mod_init_629 : decode b_Mod_init 629 = .ok (.dup, 1) := by decide +kernel
theorem d_Mod_init_630 : decode b_Mod_init 630 = .ok (.bipush 21, 2) := by decide +kernel
theorem d_Mod_init_632 : decode b_Mod_init 632 = .ok (.bipush 21, 2) := by decide +kernel
theorem d_Mod_init_634 : decode b_Mod_init 634 = .ok (.iastore, 1) := by decide +kernel
theorem d_Mod_init_635 : decode b_Mod_init 635 = .ok (.dup, 1) := by decide +kernel
theorem d_Mod_init_636 : decode b_Mod_init 636 = .ok (.bipush 22, 2) := by decide +kernel
theorem d_Mod_init_638 : decode b_Mod_init 638 = .ok (.bipush 21, 2) := by decide +kernel
theorem d_Mod_init_640 : decode b_Mod_init 640 = .ok (.iastore, 1) := by decide +kernel
theorem d_Mod_init_641 : decode b_Mod_init 641 = .ok (.dup, 1) := by decide +kernel
theorem d_Mod_init_642 : decode b_Mod_init 642 = .ok (.bipush 23, 2) := by decide +kernel
theorem d_Mod_init_644 : decode b_Mod_init 644 = .ok (.bipush 11, 2) := by decide +kernel
theorem d_Mod_init_646 : decode b_Mod_init 646 = .ok (.iastore, 1) := by decide +kernel
theorem d_Mod_init_647 : decode b_Mod_init 647 = .ok (.dup, 1) := by decide +kernel
theorem d_Mod_init_648 : decode b_Mod_init 648 = .ok (.bipush 24, 2) := by decide +kernel
theorem d_Mod_init_650 : decode b_Mod_init 650 = .ok (.bipush 11, 2) := by decide +kernel
theorem d_Mod_init_652 : decode b_Mod_init 652 = .ok (.iastore, 1) := by decide +kernel
theorem d_Mod_init_653 : decode b_Mod_init 653 = .ok (.dup, 1) := by decide +kernel
theorem d_Mod_init_654 : decode b_Mod_init 654 = .ok (.bipush 25, 2) := by decide +kernel
theorem d_Mod_init_656 : decode b_Mod_init 656 = .ok (.bipush 11, 2) := by decide +kernel
theorem d_Mod_init_658 : decode b_Mod_init 658 = .ok (.iastore, 1) := by decide +kernel
theorem d_Mod_init_659 : decode b_Mod_init 659 = .ok (.dup, 1) := by decide +kernel
theorem d_Mod_init_660 : decode b_Mod_init 660 = .ok (.bipush 26, 2) := by decide +kernel
theorem d_Mod_init_662 : decode b_Mod_init 662 = .ok (.bipush 11, 2) := by decide +kernel
theorem d_Mod_init_664 : decode b_Mod_init 664 = .ok (.iastore, 1) := by decide +kernel
theorem d_Mod_init_665 : decode b_Mod_init 665 = .ok (.dup, 1) := by decide +kernel
theorem d_Mod_init_666 : decode b_Mod_init 666 = .ok (.bipush 27, 2) := by decide +kernel
theorem d_Mod_init_668 : decode b_Mod_init 668 = .ok (.bipush 21, 2) := by decide +kernel
theorem d_Mod_init_670 : decode b_Mod_init 670 = .ok (.iastore, 1) := by decide +kernel
theorem d_Mod_init_671 : decode b_Mod_init 671 = .ok (.dup, 1) := by decide +kernel
theorem d_Mod_init_672 : decode b_Mod_init 672 = .ok (.bipush 28, 2) := by decide +kernel
theorem d_Mod_init_674 : decode b_Mod_init 674 = .ok (.bipush 21, 2) := by decide +kernel
theorem d_Mod_init_676 : decode b_Mod_init 676 = .ok (.iastore, 1) := by decide +kernel
theorem d_Mod_init_677 : decode b_Mod_init 677 = .ok (.dup, 1) := by decide +kernel
theorem d_Mod_init_678 : decode b_Mod_init 678 = .ok (.bipush 29, 2) := by decide +kernel
theorem d_Mod_init_680 : decode b_Mod_init 680 = .ok (.bipush 21, 2) := by decide +kernel
theorem d_Mod_init_682 : decode b_Mod_init 682 = .ok (.iastore, 1) := by decide +kernel
theorem d_Mod_init_683 : decode b_Mod_init 683 = .ok (.dup, 1) := by decide +kernel
theorem d_Mod_init_684 : decode b_Mod_init 684 = .ok (.bipush 30, 2) := by decide +kernel
theorem d_Mod_init_686 : decode b_Mod_init 686 = .ok (.bipush 11, 2) := by decide +kernel
theorem d_Mod_init_688 : decode b_Mod_init 688 = .ok (.iastore, 1) := by decide +kernel
theorem d_Mod_init_689 : decode b_Mod_init 689 = .ok (.dup, 1) := by decide +kernel
theorem d_Mod_init_690 : decode b_Mod_init 690 = .ok (.bipush 31, 2) := by decide +kernel
theorem d_Mod_init_692 : decode b_Mod_init 692 = .ok (.bipush 21, 2) := by decide +kernel
theorem d_Mod_init_694 : decode b_Mod_init 694 = .ok (.iastore, 1) := by decide +kernel
theorem d_Mod_init_695 : decode b_Mod_init 695 = .ok (.dup, 1) := by decide +kernel
theorem d_Mod_init_696 : decode b_Mod_init 696 = .ok (.bipush 32, 2) := by decide +kernel
theorem d_Mod_init_698 : decode b_Mod_init 698 = .ok (.bipush 21, 2) := by decide +kernel
theorem d_Mod_init_700 : decode b_Mod_init 700 = .ok (.iastore, 1) := by decide +kernel
theorem d_Mod_init_701 : decode b_Mod_init 701 = .ok (.dup, 1) := by decide +kernel
theorem d_Mod_init_702 : decode b_Mod_init 702 = .ok (.bipush 33, 2) := by decide +kernel
theorem d_Mod_init_704 : decode b_Mod_init 704 = .ok (.bipush 21, 2) := by decide +kernel
theorem d_Mod_init_706 : decode b_Mod_init 706 = .ok (.iastore, 1) := by decide +kernel
theorem d_Mod_init_707 : decode b_Mod_init 707 = .ok (.dup, 1) := by decide +kernel
theorem d_Mod_init_708 : decode b_Mod_init 708 = .ok (.bipush 34, 2) := by decide +kernel
theorem d_Mod_init_710 : decode b_Mod_init 710 = .ok (.bipush 21, 2) := by decide +kernel
theorem d_Mod_init_712 : decode b_Mod_init 712 = .ok (.iastore, 1) := by decide +kernel
theorem d_Mod_init_713 : decode b_Mod_init 713 = .ok (.dup, 1) := by decide +kernel
theorem d_Mod_init_714 : decode b_Mod_init 714 = .ok (.bipush 35, 2) := by decide +kernel
theorem d_Mod_init_716 : decode b_Mod_init 716 = .ok (.bipush 21, 2) := by decide +kernel
theorem d_Mod_init_718 : decode b_Mod_init 718 = .ok (.iastore, 1) := by decide +kernel
theorem d_Mod_init_719 : decode b_Mod_init 719 = .ok (.putfield 158, 3) := by decide +kernel
theorem d_Mod_init_722 : decode b_Mod_init 722 = .ok (.aload_n 0, 1) := by decide +kernel
theorem d_Mod_init_723 : decode b_Mod_init 723 = .ok (.bipush 35, 2) := by decide +kernel
theorem d_Mod_init_725 : decode b_Mod_init 725 = .ok (.newarray .int, 2) := by decide +kernel
theorem d_Mod_init_727 : decode b_Mod_init 727 = .ok (.dup, 1) := by decide +kernel
theorem d_Mod_init_728 : decode b_Mod_init 728 = .ok (.iconst 0, 1) := by decide +kernel
theorem d_Mod_init_729 : decode b_Mod_init 729 = .ok (.bipush 21, 2) := by decide +kernel
theorem d_Mod_init_731 : decode b_Mod_init 731 = .ok (.iastore, 1) := by decide +kernel
theorem d_Mod_init_732 : decode b_Mod_init 732 = .ok (.dup, 1) := by decide +kernel
theorem d_Mod_init_733 : decode b_Mod_init 733 = .ok (.iconst 1, 1) := by decide +kernel
theorem d_Mod_init_734 : decode b_Mod_init 734 = .ok (.bipush 21, 2) := by decide +kernel
theorem d_Mod_init_736 : decode b_Mod_init 736 = .ok (.iastore, 1) := by decide +kernel
theorem d_Mod_init_737 : decode b_Mod_init 737 = .ok (.dup, 1) := by decide +kernel
theorem d_Mod_init_738 : decode b_Mod_init 738 = .ok (.iconst 2, 1) := by decide +kernel
theorem d_Mod_init_739 : decode b_Mod_init 739 = .ok (.bipush 11, 2) := by decide +kernel
theorem d_Mod_init_741 : decode b_Mod_init 741 = .ok (.iastore, 1) := by decide +kernel
theorem d_Mod_init_742 : decode b_Mod_init 742 = .ok (.dup, 1) := by decide +kernel
theorem d_Mod_init_743 : decode b_Mod_init 743 = .ok (.iconst 3, 1) := by decide +kernel
theorem d_Mod_init_744 : decode b_Mod_init 744 = .ok (.bipush 11, 2) := by decide +kernel
theorem d_Mod_init_746 : decode b_Mod_init 746 = .ok (.iastore, 1) := by decide +kernel
theorem d_Mod_init_747 : decode b_Mod_init 747 = .ok (.dup, 1) := by decide +kernel
theorem d_Mod_init_748 : decode b_Mod_init 748 = .ok (.iconst 4, 1) := by decide +kernel
theorem d_Mod_init_749 : decode b_Mod_init 749 = .ok (.bipush 10, 2) := by decide +kernel
theorem d_Mod_init_751 : decode b_Mod_init 751 = .ok (.iastore, 1) := by decide +kernel
theorem d_Mod_init_752 : decode b_Mod_init 752 = .ok (.dup, 1) := by decide +kernel
theorem d_Mod_init_753 : decode b_Mod_init 753 = .ok (.iconst 5, 1) := by decide +kernel
theorem d_Mod_init_754 : decode b_Mod_init 754 = .ok (.iconst 1, 1) := by decide +kernel
theorem d_Mod_init_755 : decode b_Mod_init 755 = .ok (.iastore, 1) := by decide +kernel
theorem d_Mod_init_756 : decode b_Mod_init 756 = .ok (.dup, 1) := by decide +kernel
theorem d_Mod_init_757 : decode b_Mod_init 757 = .ok (.bipush 6, 2) := by decide +kernel
theorem d_Mod_init_759 : decode b_Mod_init 759 = .ok (.iconst 1, 1) := by decide +kernel
theorem d_Mod_init_760 : decode b_Mod_init 760 = .ok (.iastore, 1) := by decide +kernel
theorem d_Mod_init_761 : decode b_Mod_init 761 = .ok (.dup, 1) := by decide +kernel
theorem d_Mod_init_762 : decode b_Mod_init 762 = .ok (.bipush 7, 2) := by decide +kernel
theorem d_Mod_init_764 : decode b_Mod_init 764 = .ok (.bipush 11, 2) := by decide +kernel
theorem d_Mod_init_766 : decode b_Mod_init 766 = .ok (.iastore, 1) := by decide +kernel
theorem d_Mod_init_767 : decode b_Mod_init 767 = .ok (.dup, 1) := by decide +kernel
theorem d_Mod_init_768 : decode b_Mod_init 768 = .ok (.bipush 8, 2) := by decide +kernel
theorem d_Mod_init_770 : decode b_Mod_init 770 = .ok (.bipush 20, 2) := by decide +kernel
theorem d_Mod_init_772 : decode b_Mod_init 772 = .ok (.iastore, 1) := by decide +kernel
theorem d_Mod_init_773 : decode b_Mod_init 773 = .ok (.dup, 1) := by decide +kernel
theorem d_Mod_init_774 : decode b_Mod_init 774 = .ok (.bipush 9, 2) := by decide +kernel
theorem d_Mod_init_776 : decode b_Mod_init 776 = .ok (.bipush 20, 2) := by decide +kernel
theorem d_Mod_init_778 : decode b_Mod_init 778 = .ok (.iastore, 1) := by decide +kernel
theorem d_Mod_init_779 : decode b_Mod_init 779 = .ok (.dup, 1) := by decide +kernel
theorem d_Mod_init_780 : decode b_Mod_init 780 = .ok (.bipush 10, 2) := by decide +kernel
theorem d_Mod_init_782 : decode b_Mod_init 782 = .ok (.bipush 10, 2) := by decide +kernel
theorem d_Mod_init_784 : decode b_Mod_init 784 = .ok (.iastore, 1) := by decide +kernel
theorem d_Mod_init_785 : decode b_Mod_init 785 = .ok (.dup, 1) := by decide +kernel
theorem d_Mod_init_786 : decode b_Mod_init 786 = .ok (.bipush 11, 2) := by decide +kernel
theorem d_Mod_init_788 : decode b_Mod_init 788 = .ok (.bipush 10, 2) := by decide +kernel
theorem d_Mod_init_790 : decode b_Mod_init 790 = .ok (.iastore, 1) := by decide +kernel
theorem d_Mod_init_791 : decode b_Mod_init 791 = .ok (.dup, 1) := by decide +kernel
theorem d_Mod_init_792 : decode b_Mod_init 792 = .ok (.bipush 12, 2) := by decide +kernel
theorem d_Mod_init_794 : decode b_Mod_init 794 = .ok (.iconst 1, 1) := by decide +kernel
theorem d_Mod_init_795 : decode b_Mod_init 795 = .ok (.iastore, 1) := by decide +kernel
theorem d_Mod_init_796 : decode b_Mod_init 796 = .ok (.dup, 1) := by decide +kernel
theorem d_Mod_init_797 : decode b_Mod_init 797 = .ok (.bipush 13, 2) := by decide +kernel
theorem d_Mod_init_799 : decode b_Mod_init 799 = .ok (.iconst 1, 1) := by decide +kernel
theorem d_Mod_init_800 : decode b_Mod_init 800 = .ok (.iastore, 1) := by decide +kernel
theorem d_Mod_init_801 : decode b_Mod_init 801 = .ok (.dup, 1) := by decide +kernel
theorem d_Mod_init_802 : decode b_Mod_init 802 = .ok (.bipush 14, 2) := by decide +kernel
theorem d_Mod_init_804 : decode b_Mod_init 804 = .ok (.bipush 10, 2) := by decide +kernel
theorem d_Mod_init_806 : decode b_Mod_init 806 = .ok (.iastore, 1) := by decide +kernel
theorem d_Mod_init_807 : decode b_Mod_init 807 = .ok (.dup, 1) := by decide +kernel
theorem d_Mod_init_808 : decode b_Mod_init 808 = .ok (.bipush 15, 2) := by decide +kernel
theorem d_Mod_init_810 : decode b_Mod_init 810 = .ok (.bipush 10, 2) := by decide +kernel
theorem d_Mod_init_812 : decode b_Mod_init 812 = .ok (.iastore, 1) := by decide +kernel
theorem d_Mod_init_813 : decode b_Mod_init 813 = .ok (.dup, 1) := by decide +kernel
theorem d_Mod_init_814 : decode b_Mod_init 814 = .ok (.bipush 16, 2) := by decide +kernel
theorem d_Mod_init_816 : decode b_Mod_init 816 = .ok (.bipush 10, 2) := by decide +kernel
theorem d_Mod_init_818 : decode b_Mod_init 818 = .ok (.iastore, 1) := by decide +kernel
theorem d_Mod_init_819 : decode b_Mod_init 819 = .ok (.dup, 1) := by decide +kernel
theorem d_Mod_init_820 : decode b_Mod_init 820 = .ok (.bipush 17, 2) := by decide +kernel
theorem d_Mod_init_822 : decode b_Mod_init 822 = .ok (.iconst 0, 1) := by decide +kernel
theorem d_Mod_init_823 : decode b_Mod_init 823 = .ok (.iastore, 1) := by decide +kernel
theorem d_Mod_init_824 : decode b_Mod_init 824 = .ok (.dup, 1) := by decide +kernel
theorem d_Mod_init_825 : decode b_Mod_init 825 = .ok (.bipush 18, 2) := by decide +kernel
theorem d_Mod_init_827 : decode b_Mod_init 827 = .ok (.iconst 0, 1) := by decide +kernel
theorem d_Mod_init_828 : decode b_Mod_init 828 = .ok (.iastore, 1) := by decide +kernel
theorem d_Mod_init_829 : decode b_Mod_init 829 = .ok (.dup, 1) := by decide +kernel
theorem d_Mod_init_830 : decode b_Mod_init 830 = .ok (.bipush 19, 2) := by decide +kernel
theorem d_Mod_init_832 : decode b_Mod_init 832 = .ok (.bipush 10, 2) := by decide +kernel
theorem d_Mod_init_834 : decode b_Mod_init 834 = .ok (.iastore, 1) := by decide +kernel
theorem d_Mod_init_835 : decode b_Mod_init 835 = .ok (.dup, 1) := by decide +kernel
theorem d_Mod_init_836 : decode b_Mod_init 836 = .ok (.bipush 20, 2) := by decide +kernel
theorem d_Mod_init_838 : decode b_Mod_init 838 = .ok (.bipush 10, 2) := by decide +kernel
theorem d_Mod_init_840 : decode b_Mod_init 840 = .ok (.iastore, 1) := by decide +kernel
theorem d_Mod_init_841 : decode b_Mod_init 841 = .ok (.dup, 1) := by decide +kernel
theorem d_Mod_init_842 : decode b_Mod_init 842 = .ok (.bipush 21, 2) := by decide +kernel
theorem d_Mod_init_844 : decode b_Mod_init 844 = .ok (.bipush 10, 2) := by decide +kernel
theorem d_Mod_init_846 : decode b_Mod_init 846 = .ok (.iastore, 1) := by decide +kernel
theorem d_Mod_init_847 : decode b_Mod_init 847 = .ok (.dup, 1) := by decide +kernel
theorem d_Mod_init_848 : decode b_Mod_init 848 = .ok (.bipush 22, 2) := by decide +kernel
theorem d_Mod_init_850 : decode b_Mod_init 850 = .ok (.bipush 12, 2) := by decide +kernel
theorem d_Mod_init_852 : decode b_Mod_init 852 = .ok (.iastore, 1) := by decide +kernel
theorem d_Mod_init_853 : decode b_Mod_init 853 = .ok (.dup, 1) := by decide +kernel
theorem d_Mod_init_854 : decode b_Mod_init 854 = .ok (.bipush 23, 2) := by decide +kernel
theorem d_Mod_init_856 : decode b_Mod_init 856 = .ok (.bipush 11, 2) := by decide +kernel
theorem d_Mod_init_858 : decode b_Mod_init 858 = .ok (.iastore, 1) := by decide +kernel
theorem d_Mod_init_859 : decode b_Mod_init 859 = .ok (.dup, 1) := by decide +kernel
theorem d_Mod_init_860 : decode b_Mod_init 860 = .ok (.bipush 24, 2) := by decide +kernel
theorem d_Mod_init_862 : decode b_Mod_init 862 = .ok (.bipush 22, 2) := by decide +kernel
theorem d_Mod_init_864 : decode b_Mod_init 864 = .ok (.iastore, 1) := by decide +kernel
theorem d_Mod_init_865 : decode b_Mod_init 865 = .ok (.dup, 1) := by decide +kernel
theorem d_Mod_init_866 : decode b_Mod_init 866 = .ok (.bipush 25, 2) := by decide +kernel
theorem d_Mod_init_868 : decode b_Mod_init 868 = .ok (.iconst 1, 1) := by decide +kernel
theorem d_Mod_init_869 : decode b_Mod_init 869 = .ok (.iastore, 1) := by decide +kernel
theorem d_Mod_init_870 : decode b_Mod_init 870 = .ok (.dup, 1) := by decide +kernel
theorem d_Mod_init_871 : decode b_Mod_init 871 = .ok (.bipush 26, 2) := by decide +kernel
theorem d_Mod_init_873 : decode b_Mod_init 873 = .ok (.iconst 1, 1) := by decide +kernel
theorem d_Mod_init_874 : decode b_Mod_init 874 = .ok (.iastore, 1) := by decide +kernel
theorem d_Mod_init_875 : decode b_Mod_init 875 = .ok (.dup, 1) := by decide +kernel
theorem d_Mod_init_876 : decode b_Mod_init 876 = .ok (.bipush 27, 2) := by decide +kernel
theorem d_Mod_init_878 : decode b_Mod_init 878 = .ok (.iconst 0, 1) := by decide +kernel
theorem d_Mod_init_879 : decode b_Mod_init 879 = .ok (.iastore, 1) := by decide +kernel
theorem d_Mod_init_880 : decode b_Mod_init 880 = .ok (.dup, 1) := by decide +kernel
theorem d_Mod_init_881 : decode b_Mod_init 881 = .ok (.bipush 28, 2) := by decide +kernel
theorem d_Mod_init_883 : decode b_Mod_init 883 = .ok (.iconst 0, 1) := by decide +kernel
theorem d_Mod_init_884 : decode b_Mod_init 884 = .ok (.iastore, 1) := by decide +kernel
theorem d_Mod_init_885 : decode b_Mod_init 885 = .ok (.dup, 1) := by decide +kernel
theorem d_Mod_init_886 : decode b_Mod_init 886 = .ok (.bipush 29, 2) := by decide +kernel
theorem d_Mod_init_888 : decode b_Mod_init 888 = .ok (.iconst 0, 1) := by decide +kernel
theorem d_Mod_init_889 : decode b_Mod_init 889 = .ok (.iastore, 1) := by decide +kernel
theorem d_Mod_init_890 : decode b_Mod_init 890 = .ok (.dup, 1) := by decide +kernel
theorem d_Mod_init_891 : decode b_Mod_init 891 = .ok (.bipush 30, 2) := by decide +kernel
theorem d_Mod_init_893 : decode b_Mod_init 893 = .ok (.iconst 0, 1) := by decide +kernel
theorem d_Mod_init_894 : decode b_Mod_init 894 = .ok (.iastore, 1) := by decide +kernel
theorem d_Mod_init_895 : decode b_Mod_init 895 = .ok (.dup, 1) := by decide +kernel
theorem d_Mod_init_896 : decode b_Mod_init 896 = .ok (.bipush 31, 2) := by decide +kernel
theorem d_Mod_init_898 : decode b_Mod_init 898 = .ok (.bipush 10, 2) := by decide +kernel
theorem d_Mod_init_900 : decode b_Mod_init 900 = .ok (.iastore, 1) := by decide +kernel
theorem d_Mod_init_901 : decode b_Mod_init 901 = .ok (.dup, 1) := by decide +kernel
theorem d_Mod_init_902 : decode b_Mod_init 902 = .ok (.bipush 32, 2) := by decide +kernel
theorem d_Mod_init_904 : decode b_Mod_init 904 = .ok (.iconst 0, 1) := by decide +kernel
theorem d_Mod_init_905 : decode b_Mod_init 905 = .ok (.iastore, 1) := by decide +kernel
theorem d_Mod_init_906 : decode b_Mod_init 906 = .ok (.dup, 1) := by decide +kernel
theorem d_Mod_init_907 : decode b_Mod_init 907 = .ok (.bipush 33, 2) := by decide +kernel
theorem d_Mod_init_909 : decode b_Mod_init 909 = .ok (.iconst 1, 1) := by decide +kernel
theorem d_Mod_init_910 : decode b_Mod_init 910 = .ok (.iastore, 1) := by decide +kernel
theorem d_Mod_init_911 : decode b_Mod_init 911 = .ok (.dup, 1) := by decide +kernel
theorem d_Mod_init_912 : decode b_Mod_init 912 = .ok (.bipush 34, 2) := by decide +kernel
theorem d_Mod_init_914 : decode b_Mod_init 914 = .ok (.iconst 0, 1) := by decide +kernel
theorem d_Mod_init_915 : decode b_Mod_init 915 = .ok (.iastore, 1) := by decide +kernel
theorem d_Mod_init_916 : decode b_Mod_init 916 = .ok (.putfield 162, 3) := by decide +kernel
theorem d_Mod_init_919 : decode b_Mod_init 919 = .ok (.aload_n 0, 1) := by decide +kernel
theorem d_Mod_init_920 : decode b_Mod_init 920 = .ok (.bipush 21, 2) := by decide +kernel
theorem d_Mod_init_922 : decode b_Mod_init 922 = .ok (.newarray .long, 2) := by decide +kernel
theorem d_Mod_init_924 : decode b_Mod_init 924 = .ok (.dup, 1) := by decide +kernel
theorem d_Mod_init_925 : decode b_Mod_init 925 = .ok (.iconst 0, 1) := by decide +kernel
theorem d_Mod_init_926 : decode b_Mod_init 926 = .ok (.ldc2_w 165, 3) := by decide +kernel
theorem d_Mod_init_929 : decode b_Mod_init 929 = .ok (.lastore, 1) := by decide +kernel
theorem d_Mod_init_930 : decode b_Mod_init 930 = .ok (.dup, 1) := by decide +kernel
theorem d_Mod_init_931 : decode b_Mod_init 931 = .ok (.iconst 1, 1) := by decide +kernel
theorem d_Mod_init_932 : decode b_Mod_init 932 = .ok (.ldc2_w 167, 3) := by decide +kernel
theorem d_Mod_init_935 : decode b_Mod_init 935 = .ok (.lastore, 1) := by decide +kernel
theorem d_Mod_init_936 : decode b_Mod_init 936 = .ok (.dup, 1) := by decide +kernel
theorem d_Mod_init_937 : decode b_Mod_init 937 = .ok (.iconst 2, 1) := by decide +kernel
theorem d_Mod_init_938 : decode b_Mod_init 938 = .ok (.ldc2_w 169, 3) := by decide +kernel
theorem d_Mod_init_941 : decode b_Mod_init 941 = .ok (.lastore, 1) := by decide +kernel
theorem d_Mod_init_942 : decode b_Mod_init 942 = .ok (.dup, 1) := by decide +kernel
theorem d_Mod_init_943 : decode b_Mod_init 943 = .ok (.iconst 3, 1) := by decide +kernel
theorem d_Mod_init_944 : decode b_Mod_init 944 = .ok (.ldc2_w 171, 3) := by decide +kernel
theorem d_Mod_init_947 : decode b_Mod_init 947 = .ok (.lastore, 1) := by decide +kernel
theorem d_Mod_init_948 : decode b_Mod_init 948 = .ok (.dup, 1) := by decide +kernel
theorem d_Mod_init_949 : decode b_Mod_init 949 = .ok (.iconst 4, 1) := by decide +kernel
theorem d_Mod_init_950 : decode b_Mod_init 950 = .ok (.ldc2_w 173, 3) := by decide +kernel
theorem d_Mod_init_953 : decode b_Mod_init 953 = .ok (.lastore, 1) := by decide +kernel
theorem d_Mod_init_954 : decode b_Mod_init 954 = .ok (.dup, 1) := by decide +kernel
theorem d_Mod_init_955 : decode b_Mod_init 955 = .ok (.iconst 5, 1) := by decide +kernel
theorem d_Mod_init_956 : decode b_Mod_init 956 = .ok (.ldc2_w 175, 3) := by decide +kernel
theorem d_Mod_init_959 : decode b_Mod_init 959 = .ok (.lastore, 1) := by decide +kernel
theorem d_Mod_init_960 : decode b_Mod_init 960 = .ok (.dup, 1) := by decide +kernel
theorem d_Mod_init_961 : decode b_Mod_init 961 = .ok (.bipush 6, 2) := by decide +kernel
theorem d_Mod_init_963 : decode b_Mod_init 963 = .ok (.ldc2_w 177, 3) := by decide +kernel
theorem d_Mod_init_966 : decode b_Mod_init 966 = .ok (.lastore, 1) := by decide +kernel
theorem d_Mod_init_967 : decode b_Mod_init 967 = .ok (.dup, 1) := by decide +kernel
theorem d_Mod_init_968 : decode b_Mod_init 968 = .ok (.bipush 7, 2) := by decide +kernel
theorem d_Mod_init_970 : decode b_Mod_init 970 = .ok (.ldc2_w 179, 3) := by decide +kernel
theorem d_Mod_init_973 : decode b_Mod_init 973 = .ok (.lastore, 1) := by decide +kernel
theorem d_Mod_init_974 : decode b_Mod_init 974 = .ok (.dup, 1) := by decide +kernel
theorem d_Mod_init_975 : decode b_Mod_init 975 = .ok (.bipush 8, 2) := by decide +kernel
theorem d_Mod_init_977 : decode b_Mod_init 977 = .ok (.ldc2_w 181, 3) := by decide +kernel
theorem d_Mod_init_980 : decode b_Mod_init 980 = .ok (.lastore, 1) := by decide +kernel
theorem d_Mod_init_981 : decode b_Mod_init 981 = .ok (.dup, 1) := by decide +kernel
theorem d_Mod_init_982 : decode b_Mod_init 982 = .ok (.bipush 9, 2) := by decide +kernel
theorem d_Mod_init_984 : decode b_Mod_init 984 = .ok (.ldc2_w 183, 3) := by decide +kernel
theorem d_Mod_init_987 : decode b_Mod_init 987 = .ok (.lastore, 1) := by decide +kernel
theorem d_Mod_init_988 : decode b_Mod_init 988 = .ok (.dup, 1) := by decide +kernel
theorem d_Mod_init_989 : decode b_Mod_init 989 = .ok (.bipush 10, 2) := by decide +kernel
theorem d_Mod_init_991 : decode b_Mod_init 991 = .ok (.ldc2_w 185, 3) := by decide +kernel
theorem d_Mod_init_994 : decode b_Mod_init 994 = .ok (.lastore, 1) := by decide +kernel
theorem d_Mod_init_995 : decode b_Mod_init 995 = .ok (.dup, 1) := by decide +kernel
theorem d_Mod_init_996 : decode b_Mod_init 996 = .ok (.bipush 11, 2) := by decide +kernel
theorem d_Mod_init_998 : decode b_Mod_init 998 = .ok (.ldc2_w 187, 3) := by decide +kernel
theorem d_Mod_init_1001 : decode b_Mod_init 1001 = .ok (.lastore, 1) := by decide +kernel
theorem d_Mod_init_1002 : decode b_Mod_init 1002 = .ok (.dup, 1) := by decide +kernel
theorem d_Mod_init_1003 : decode b_Mod_init 1003 = .ok (.bipush 12, 2) := by decide +kernel
theorem d_Mod_init_1005 : decode b_Mod_init 1005 = .ok (.ldc2_w 189, 3) := by decide +kernel
theorem d_Mod_init_1008 : decode b_Mod_init 1008 = .ok (.lastore, 1) := by decide +kernel
theorem d_Mod_init_1009 : decode b_Mod_init 1009 = .ok (.dup, 1) := by decide +kernel
theorem d_Mod_init_1010 : decode b_Mod_init 1010 = .ok (.bipush 13, 2) := by decide +kernel
theorem d_Mod_init_1012 : decode b_Mod_init 1012 = .ok (.ldc2_w 191, 3) := by decide +kernel
theorem d_Mod_init_1015 : decode b_Mod_init 1015 = .ok (.lastore, 1) := by decide +kernel
theorem d_Mod_init_1016 : decode b_Mod_init 1016 = .ok (.dup, 1) := by decide +kernel
theorem d_Mod_init_1017 : decode b_Mod_init 1017 = .ok (.bipush 14, 2) := by decide +kernel
theorem d_Mod_init_1019 : decode b_Mod_init 1019 = .ok (.ldc2_w 193, 3) := by decide +kernel
theorem d_Mod_init_1022 : decode b_Mod_init 1022 = .ok (.lastore, 1) := by decide +kernel
theorem d_Mod_init_1023 : decode b_Mod_init 1023 = .ok (.dup, 1) := by decide +kernel
theorem d_Mod_init_1024 : decode b_Mod_init 1024 = .ok (.bipush 15, 2) := by decide +kernel
theorem d_Mod_init_1026 : decode b_Mod_init 1026 = .ok (.ldc2_w 195, 3) := by decide +kernel
theorem d_Mod_init_1029 : decode b_Mod_init 1029 = .ok (.lastore, 1) := by decide +kernel
theorem d_Mod_init_1030 : decode b_Mod_init 1030 = .ok (.dup, 1) := by decide +kernel
theorem d_Mod_init_1031 : decode b_Mod_init 1031 = .ok (.bipush 16, 2) := by decide +kernel
theorem d_Mod_init_1033 : decode b_Mod_init 1033 = .ok (.ldc2_w 197, 3) := by decide +kernel
theorem d_Mod_init_1036 : decode b_Mod_init 1036 = .ok (.lastore, 1) := by decide +kernel
theorem d_Mod_init_1037 : decode b_Mod_init 1037 = .ok (.dup, 1) := by decide +kernel
theorem d_Mod_init_1038 : decode b_Mod_init 1038 = .ok (.bipush 17, 2) := by decide +kernel
theorem d_Mod_init_1040 : decode b_Mod_init 1040 = .ok (.ldc2_w 199, 3) := by decide +kernel
theorem d_Mod_init_1043 : decode b_Mod_init 1043 = .ok (.lastore, 1) := by decide +kernel
theorem d_Mod_init_1044 : decode b_Mod_init 1044 = .ok (.dup, 1) := by decide +kernel
theorem d_Mod_init_1045 : decode b_Mod_init 1045 = .ok (.bipush 18, 2) := by decide +kernel
theorem d_Mod_init_1047 : decode b_Mod_init 1047 = .ok (.ldc2_w 201, 3) := by decide +kernel
theorem d_Mod_init_1050 : decode b_Mod_init 1050 = .ok (.lastore, 1) := by decide +kernel
theorem d_Mod_init_1051 : decode b_Mod_init 1051 = .ok (.dup, 1) := by decide +kernel
theorem d_Mod_init_1052 : decode b_Mod_init 1052 = .ok (.bipush 19, 2) := by decide +kernel
theorem d_Mod_init_1054 : decode b_Mod_init 1054 = .ok (.ldc2_w 203, 3) := by decide +kernel
theorem d_Mod_init_1057 : decode b_Mod_init 1057 = .ok (.lastore, 1) := by decide +kernel
theorem d_Mod_init_1058 : decode b_Mod_init 1058 = .ok (.dup, 1) := by decide +kernel
theorem d_Mod_init_1059 : decode b_Mod_init 1059 = .ok (.bipush 20, 2) := by decide +kernel
theorem d_Mod_init_1061 : decode b_Mod_init 1061 = .ok (.ldc2_w 205, 3) := by decide +kernel
theorem d_Mod_init_1064 : decode b_Mod_init 1064 = .ok (.lastore, 1) := by decide +kernel
theorem d_Mod_init_1065 : decode b_Mod_init 1065 = .ok (.putfield 207, 3) := by decide +kernel
theorem d_Mod_init_1068 : decode b_Mod_init 1068 = .ok (.aload_n 0, 1) := by decide +kernel
theorem d_Mod_init_1069 : decode b_Mod_init 1069 = .ok (.bipush 64, 2) := by decide +kernel
theorem d_Mod_init_1071 : decode b_Mod_init 1071 = .ok (.newarray .int, 2) := by decide +kernel
theorem d_Mod_init_1073 : decode b_Mod_init 1073 = .ok (.putfield 210, 3) := by decide +kernel
theorem d_Mod_init_1076 : decode b_Mod_init 1076 = .ok (.aload_n 0, 1) := by decide +kernel
theorem d_Mod_init_1077 : decode b_Mod_init 1077 = .ok (.bipush 64, 2) := by decide +kernel
theorem d_Mod_init_1079 : decode b_Mod_init 1079 = .ok (.newarray .int, 2) := by decide +kernel
theorem d_Mod_init_1081 : decode b_Mod_init 1081 = .ok (.putfield 213, 3) := by decide +kernel
theorem d_Mod_init_1084 : decode b_Mod_init 1084 = .ok (.aload_n 0, 1) := by decide +kernel
theorem d_Mod_init_1085 : decode b_Mod_init 1085 = .ok (.sipush 1000, 3) := by decide +kernel
theorem d_Mod_init_1088 : decode b_Mod_init 1088 = .ok (.newarray .int, 2) := by decide +kernel
theorem d_Mod_init_1090 : decode b_Mod_init 1090 = .ok (.putfield 216, 3) := by decide +kernel
theorem d_Mod_init_1093 : decode b_Mod_init 1093 = .ok (.aload_n 0, 1) := by decide +kernel
theorem d_Mod_init_1094 : decode b_Mod_init 1094 = .ok (.iconst 1, 1) := by decide +kernel
theorem d_Mod_init_1095 : decode b_Mod_init 1095 = .ok (.putfield 219, 3) := by decide +kernel
theorem d_Mod_init_1098 : decode b_Mod_init 1098 = .ok (.aload_n 0, 1) := by decide +kernel
theorem d_Mod_init_1099 : decode b_Mod_init 1099 = .ok (.sipush 601, 3) := by decide +kernel
theorem d_Mod_init_1102 : decode b_Mod_init 1102 = .ok (.newarray .int, 2) := by decide +kernel
theorem d_Mod_init_1104 : decode b_Mod_init 1104 = .ok (.putfield 223, 3) := by decide +kernel
theorem d_Mod_init_1107 : decode b_Mod_init 1107 = .ok (.aload_n 0, 1) := by decide +kernel
theorem d_Mod_init_1108 : decode b_Mod_init 1108 = .ok (.sipush 601, 3) := by decide +kernel
theorem d_Mod_init_1111 : decode b_Mod_init 1111 = .ok (.newarray .int, 2) := by decide +kernel
theorem d_Mod_init_1113 : decode b_Mod_init 1113 = .ok (.putfield 226, 3) := by decide +kernel
theorem d_Mod_init_1116 : decode b_Mod_init 1116 = .ok (.aload_n 0, 1) := by decide +kernel
theorem d_Mod_init_1117 : decode b_Mod_init 1117 = .ok (.bipush 81, 2) := by decide +kernel
theorem d_Mod_init_1119 : decode b_Mod_init 1119 = .ok (.newarray .long, 2) := by decide +kernel
theorem d_Mod_init_1121 : decode b_Mod_init 1121 = .ok (.putfield 229, 3) := by decide +kernel
theorem d_Mod_init_1124 : decode b_Mod_init 1124 = .ok (.aload_n 0, 1) := by decide +kernel
theorem d_Mod_init_1125 : decode b_Mod_init 1125 = .ok (.bipush 81, 2) := by decide +kernel
theorem d_Mod_init_1127 : decode b_Mod_init 1127 = .ok (.newarray .int, 2) := by decide +kernel
theorem d_Mod_init_1129 : decode b_Mod_init 1129 = .ok (.putfield 232, 3) := by decide +kernel
theorem d_Mod_init_1132 : decode b_Mod_init 1132 = .ok (.aload_n 0, 1) := by decide +kernel
theorem d_Mod_init_1133 : decode b_Mod_init 1133 = .ok (.bipush 81, 2) := by decide +kernel
theorem d_Mod_init_1135 : decode b_Mod_init 1135 = .ok (.newarray .int, 2) := by decide +kernel
theorem d_Mod_init_1137 : decode b_Mod_init 1137 = .ok (.putfield 235, 3) := by decide +kernel
theorem d_Mod_init_1140 : decode b_Mod_init 1140 = .ok (.aload_n 0, 1) := by decide +kernel
theorem d_Mod_init_1141 : decode b_Mod_init 1141 = .ok (.bipush 81, 2) := by decide +kernel
theorem d_Mod_init_1143 : decode b_Mod_init 1143 = .ok (.newarray .int, 2) := by decide +kernel
theorem d_Mod_init_1145 : decode b_Mod_init 1145 = .ok (.putfield 238, 3) := by decide +kernel
theorem d_Mod_init_1148 : decode b_Mod_init 1148 = .ok (.aload_n 0, 1) := by decide +kernel
theorem d_Mod_init_1149 : decode b_Mod_init 1149 = .ok (.bipush 81, 2) := by decide +kernel
theorem d_Mod_init_1151 : decode b_Mod_init 1151 = .ok (.newarray .int, 2) := by decide +kernel
theorem d_Mod_init_1153 : decode b_Mod_init 1153 = .ok (.putfield 241, 3) := by decide +kernel
theorem d_Mod_init_1156 : decode b_Mod_init 1156 = .ok (.aload_n 0, 1) := by decide +kernel
theorem d_Mod_init_1157 : decode b_Mod_init 1157 = .ok (.bipush 81, 2) := by decide +kernel
theorem d_Mod_init_1159 : decode b_Mod_init 1159 = .ok (.newarray .boolean, 2) := by decide +kernel
theorem d_Mod_init_1161 : decode b_Mod_init 1161 = .ok (.putfield 244, 3) := by decide +kernel
theorem d_Mod_init_1164 : decode b_Mod_init 1164 = .ok (.aload_n 0, 1) := by decide +kernel
theorem d_Mod_init_1165 : decode b_Mod_init 1165 = .ok (.bipush 81, 2) := by decide +kernel
theorem d_Mod_init_1167 : decode b_Mod_init 1167 = .ok (.newarray .int, 2) := by decide +kernel
theorem d_Mod_init_1169 : decode b_Mod_init 1169 = .ok (.putfield 248, 3) := by decide +kernel
theorem d_Mod_init_1172 : decode b_Mod_init 1172 = .ok (.aload_n 0, 1) := by decide +kernel
theorem d_Mod_init_1173 : decode b_Mod_init 1173 = .ok (.bipush 81, 2) := by decide +kernel
theorem d_Mod_init_1175 : decode b_Mod_init 1175 = .ok (.newarray .int, 2) := by decide +kernel
theorem d_Mod_init_1177 : decode b_Mod_init 1177 = .ok (.putfield 251, 3) := by decide +kernel
theorem d_Mod_init_1180 : decode b_Mod_init 1180 = .ok (.aload_n 0, 1) := by decide +kernel
theorem d_Mod_init_1181 : decode b_Mod_init 1181 = .ok (.sipush 12150, 3) := by decide +kernel
theorem d_Mod_init_1184 : decode b_Mod_init 1184 = .ok (.newarray .int, 2) := by decide +kernel
theorem d_Mod_init_1186 : decode b_Mod_init 1186 = .ok (.putfield 254, 3) := by decide +kernel
theorem d_Mod_init_1189 : decode b_Mod_init 1189 = .ok (.aload_n 0, 1) := by decide +kernel
theorem d_Mod_init_1190 : decode b_Mod_init 1190 = .ok (.sipush 12150, 3) := by decide +kernel
theorem d_Mod_init_1193 : decode b_Mod_init 1193 = .ok (.newarray .int, 2) := by decide +kernel
theorem d_Mod_init_1195 : decode b_Mod_init 1195 = .ok (.putfield 257, 3) := by decide +kernel
theorem d_Mod_init_1198 : decode b_Mod_init 1198 = .ok (.aload_n 0, 1) := by decide +kernel
theorem d_Mod_init_1199 : decode b_Mod_init 1199 = .ok (.sipush 12150, 3) := by decide +kernel
theorem d_Mod_init_1202 : decode b_Mod_init 1202 = .ok (.newarray .int, 2) := by decide +kernel
theorem d_Mod_init_1204 : decode b_Mod_init 1204 = .ok (.putfield 260, 3) := by decide +kernel
theorem d_Mod_init_1207 : decode b_Mod_init 1207 = .ok (.aload_n 0, 1) := by decide +kernel
theorem d_Mod_init_1208 : decode b_Mod_init 1208 = .ok (.sipush 20000, 3) := by decide +kernel
theorem d_Mod_init_1211 : decode b_Mod_init 1211 = .ok (.newarray .int, 2) := by decide +kernel
theorem d_Mod_init_1213 : decode b_Mod_init 1213 = .ok (.putfield 263, 3) := by decide +kernel
theorem d_Mod_init_1216 : decode b_Mod_init 1216 = .ok (.aload_n 0, 1) := by decide +kernel
theorem d_Mod_init_1217 : decode b_Mod_init 1217 = .ok (.bipush 40, 2) := by decide +kernel
theorem d_Mod_init_1219 : decode b_Mod_init 1219 = .ok (.newarray .int, 2) := by decide +kernel
theorem d_Mod_init_1221 : decode b_Mod_init 1221 = .ok (.putfield 266, 3) := by decide +kernel
theorem d_Mod_init_1224 : decode b_Mod_init 1224 = .ok (.aload_n 0, 1) := by decide +kernel
theorem d_Mod_init_1225 : decode b_Mod_init 1225 = .ok (.bipush 40, 2) := by decide +kernel
theorem d_Mod_init_1227 : decode b_Mod_init 1227 = .ok (.newarray .int, 2) := by decide +kernel
theorem d_Mod_init_1229 : decode b_Mod_init 1229 = .ok (.putfield 269, 3) := by decide +kernel
theorem d_Mod_init_1232 : decode b_Mod_init 1232 = .ok (.aload_n 0, 1) := by decide +kernel
theorem d_Mod_init_1233 : decode b_Mod_init 1233 = .ok (.bipush 40, 2) := by decide +kernel
theorem d_Mod_init_1235 : decode b_Mod_init 1235 = .ok (.newarray .int, 2) := by decide +kernel
theorem d_Mod_init_1237 : decode b_Mod_init 1237 = .ok (.putfield 272, 3) := by decide +kernel
theorem d_Mod_init_1240 : decode b_Mod_init 1240 = .ok (.aload_n 0, 1) := by decide +kernel
theorem d_Mod_init_1241 : decode b_Mod_init 1241 = .ok (.bipush 40, 2) := by decide +kernel
theorem d_Mod_init_1243 : decode b_Mod_init 1243 = .ok (.newarray .int, 2) := by decide +kernel
theorem d_Mod_init_1245 : decode b_Mod_init 1245 = .ok (.putfield 275, 3) := by decide +kernel
theorem d_Mod_init_1248 : decode b_Mod_init 1248 = .ok (.aload_n 0, 1) := by decide +kernel
theorem d_Mod_init_1249 : decode b_Mod_init 1249 = .ok (.sipush 500, 3) := by decide +kernel
theorem d_Mod_init_1252 : decode b_Mod_init 1252 = .ok (.newarray .int, 2) := by decide +kernel
theorem d_Mod_init_1254 : decode b_Mod_init 1254 = .ok (.putfield 278, 3) := by decide +kernel
theorem d_Mod_init_1257 : decode b_Mod_init 1257 = .ok (.aload_n 0, 1) := by decide +kernel
theorem d_Mod_init_1258 : decode b_Mod_init 1258 = .ok (.sipush 800, 3) := by decide +kernel
theorem d_Mod_init_1261 : decode b_Mod_init 1261 = .ok (.newarray .int, 2) := by decide +kernel
theorem d_Mod_init_1263 : decode b_Mod_init 1263 = .ok (.putfield 281, 3) := by decide +kernel
theorem d_Mod_init_1266 : decode b_Mod_init 1266 = .ok (.aload_n 0, 1) := by decide +kernel
theorem d_Mod_init_1267 : decode b_Mod_init 1267 = .ok (.sipush 800, 3) := by decide +kernel
theorem d_Mod_init_1270 : decode b_Mod_init 1270 = .ok (.newarray .int, 2) := by decide +kernel
theorem d_Mod_init_1272 : decode b_Mod_init 1272 = .ok (.putfield 284, 3) := by decide +kernel
theorem d_Mod_init_1275 : decode b_Mod_init 1275 = .ok (.aload_n 0, 1) := by decide +kernel
theorem d_Mod_init_1276 : decode b_Mod_init 1276 = .ok (.sipush 800, 3) := by decide +kernel
theorem d_Mod_init_1279 : decode b_Mod_init 1279 = .ok (.newarray .int, 2) := by decide +kernel
theorem d_Mod_init_1281 : decode b_Mod_init 1281 = .ok (.putfield 287, 3) := by decide +kernel
theorem d_Mod_init_1284 : decode b_Mod_init 1284 = .ok (.aload_n 0, 1) := by decide +kernel
theorem d_Mod_init_1285 : decode b_Mod_init 1285 = .ok (.getfield 216, 3) := by decide +kernel
theorem d_Mod_init_1288 : decode b_Mod_init 1288 = .ok (.iconst 0, 1) := by decide +kernel
theorem d_Mod_init_1289 : decode b_Mod_init 1289 = .ok (.bipush 10, 2) := by decide +kernel
theorem d_Mod_init_1291 : decode b_Mod_init 1291 = .ok (.iastore, 1) := by decide +kernel
theorem d_Mod_init_1292 : decode b_Mod_init 1292 = .ok (.return_, 1) := by decide +kernel
