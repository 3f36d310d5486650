/-- the words that hold wherever the tables are alike -/
def TB : List Cond := lw_tbl.filter goodWord
theorem tbI1 (w : Cond) (h : w ∈ tables_1_1) (hg : goodWord w = true) : w ∈ TB := List.mem_filter.mpr ⟨List.mem_append_right _ (List.mem_append_left _ h), hg⟩
theorem tbI2 (w : Cond) (h : w ∈ tables_1_2) (hg : goodWord w = true) : w ∈ TB := List.mem_filter.mpr ⟨List.mem_append_right _ (List.mem_append_right _ (List.mem_append_left _ h)), hg⟩
theorem tbI3 (w : Cond) (h : w ∈ tables_1_3) (hg : goodWord w = true) : w ∈ TB := List.mem_filter.mpr ⟨List.mem_append_right _ (List.mem_append_right _ (List.mem_append_right _ (List.mem_append_left _ h))), hg⟩
theorem tbI4 (w : Cond) (h : w ∈ tables_1_4) (hg : goodWord w = true) : w ∈ TB := List.mem_filter.mpr ⟨List.mem_append_right _ (List.mem_append_right _ (List.mem_append_right _ (List.mem_append_right _ (List.mem_append_left _ h)))), hg⟩
theorem tbI5 (w : Cond) (h : w ∈ tables_1_5) (hg : goodWord w = true) : w ∈ TB := List.mem_filter.mpr ⟨List.mem_append_right _ (List.mem_append_right _ (List.mem_append_right _ (List.mem_append_right _ (List.mem_append_right _ (List.mem_append_left _ h))))), hg⟩
theorem tbI6 (w : Cond) (h : w ∈ tables_1_6) (hg : goodWord w = true) : w ∈ TB := List.mem_filter.mpr ⟨List.mem_append_right _ (List.mem_append_right _ (List.mem_append_right _ (List.mem_append_right _ (List.mem_append_right _ (List.mem_append_right _ (List.mem_append_left _ h)))))), hg⟩
theorem tbI7 (w : Cond) (h : w ∈ tables_1_7) (hg : goodWord w = true) : w ∈ TB := List.mem_filter.mpr ⟨List.mem_append_right _ (List.mem_append_right _ (List.mem_append_right _ (List.mem_append_right _ (List.mem_append_right _ (List.mem_append_right _ (List.mem_append_right _ (List.mem_append_left _ h))))))), hg⟩
theorem tbI8 (w : Cond) (h : w ∈ tables_1_8) (hg : goodWord w = true) : w ∈ TB := List.mem_filter.mpr ⟨List.mem_append_right _ (List.mem_append_right _ (List.mem_append_right _ (List.mem_append_right _ (List.mem_append_right _ (List.mem_append_right _ (List.mem_append_right _ (List.mem_append_right _ (List.mem_append_left _ h)))))))), hg⟩
theorem tbI9 (w : Cond) (h : w ∈ tables_1_9) (hg : goodWord w = true) : w ∈ TB := List.mem_filter.mpr ⟨List.mem_append_right _ (List.mem_append_right _ (List.mem_append_right _ (List.mem_append_right _ (List.mem_append_right _ (List.mem_append_right _ (List.mem_append_right _ (List.mem_append_right _ (List.mem_append_right _ (h))))))))), hg⟩
theorem tbP (w : Cond) (h : w ∈ k2_sels lw_privs) (hg : goodWord w = true) : w ∈ TB := List.mem_filter.mpr ⟨List.mem_append_left _ h, hg⟩
theorem tb_good : GoodIn TB TB := fun w h => ⟨h, good_of_word (List.mem_filter.mp h).2⟩
theorem tb_cons {w : Cond} (h : w ∈ TB) : GoodIn TB (w :: TB) := fun v hv => (List.mem_cons.mp hv).elim (fun e => e ▸ tb_good w h) (tb_good v)
theorem tbV {own C : String} {idx : Nat} {y : MethodName} {w : Cond} (h1 : Cond.methodLink own idx y ∈ TB) (h2 : Cond.instanceMethod y ∈ TB) (h3 : Cond.selects C y y ∈ TB) (h4 : Cond.initialized C ∈ TB) (hc : w ∈ TB) : GoodIn TB (wsV own idx C y (w :: TB)) := by
  intro v hv
  unfold wsV at hv
  rcases List.mem_append.mp hv with hv | hv
  · simp only [List.mem_cons, List.not_mem_nil, or_false] at hv
    rcases hv with rfl | rfl | rfl | rfl
    · exact tb_good _ h1
    · exact tb_good _ h2
    · exact tb_good _ h3
    · exact tb_good _ h4
  · exact tb_cons hc v hv
theorem tbS {own : String} {idx : Nat} {y : MethodName} {w : Cond} (h1 : Cond.methodLink own idx y ∈ TB) (h2 : Cond.static y ∈ TB) (h4 : Cond.initialized y.cls ∈ TB) (hc : w ∈ TB) : GoodIn TB (va_wsS own idx y (w :: TB)) := by
  intro v hv
  unfold va_wsS at hv
  rcases List.mem_append.mp hv with hv | hv
  · simp only [List.mem_cons, List.not_mem_nil, or_false] at hv
    rcases hv with rfl | rfl | rfl
    · exact tb_good _ h1
    · exact tb_good _ h2
    · exact tb_good _ h4
  · exact tb_cons hc v hv
abbrev TY (cI cJ cZ cW cT : ClassId) : List (ClassId × FieldType) := [(cI, .int), (cJ, .long), (cZ, .boolean), (cW, .object "ColonMachine$Word"), (cT, .object "ColonMachine$Item")]
theorem la_Calls_0 : (Jvm.Cond.laysFinal "ColonMachine$Calls" "ColonMachine$Calls" "owners" "[I") ∈ TB := tbI1 _ (List.mem_of_getElem? (i := 64) rfl) rfl
theorem la_Calls_1 : (Jvm.Cond.laysFinal "ColonMachine$Calls" "ColonMachine$Calls" "places" "[I") ∈ TB := tbI1 _ (List.mem_of_getElem? (i := 66) rfl) rfl
theorem la_Calls_2 : (Jvm.Cond.laysFinal "ColonMachine$Calls" "ColonMachine$Calls" "returnSizes" "[I") ∈ TB := tbI1 _ (List.mem_of_getElem? (i := 68) rfl) rfl
theorem la_Calls_3 : (Jvm.Cond.laysFinal "ColonMachine$Calls" "ColonMachine$Calls" "dataSizes" "[I") ∈ TB := tbI1 _ (List.mem_of_getElem? (i := 70) rfl) rfl
theorem la_Calls_4 : (Jvm.Cond.lays "ColonMachine$Calls" "ColonMachine$Calls" "size" "I") ∈ TB := tbI1 _ (List.mem_of_getElem? (i := 72) rfl) rfl
theorem la_Cells_0 : (Jvm.Cond.laysFinal "ColonMachine$Cells" "ColonMachine$Cells" "cells" "[I") ∈ TB := tbI1 _ (List.mem_of_getElem? (i := 47) rfl) rfl
theorem la_Cells_1 : (Jvm.Cond.lays "ColonMachine$Cells" "ColonMachine$Cells" "size" "I") ∈ TB := tbI1 _ (List.mem_of_getElem? (i := 49) rfl) rfl
theorem la_Compiler_0 : (Jvm.Cond.laysFinal "ColonMachine$Compiler" "ColonMachine$Compiler" "text" "LColonMachine$Text;") ∈ TB := tbI1 _ (List.mem_of_getElem? (i := 161) rfl) rfl
theorem la_Compiler_1 : (Jvm.Cond.laysFinal "ColonMachine$Compiler" "ColonMachine$Compiler" "words" "LColonMachine$Words;") ∈ TB := tbI1 _ (List.mem_of_getElem? (i := 163) rfl) rfl
theorem la_Compiler_2 : (Jvm.Cond.laysFinal "ColonMachine$Compiler" "ColonMachine$Compiler" "memory" "LColonMachine$Memory;") ∈ TB := tbI1 _ (List.mem_of_getElem? (i := 165) rfl) rfl
theorem la_Compiler_3 : (Jvm.Cond.laysFinal "ColonMachine$Compiler" "ColonMachine$Compiler" "out" "LColonMachine$Out;") ∈ TB := tbI1 _ (List.mem_of_getElem? (i := 167) rfl) rfl
theorem la_Compiler_4 : (Jvm.Cond.laysFinal "ColonMachine$Compiler" "ColonMachine$Compiler" "items" "[LColonMachine$Item;") ∈ TB := tbI1 _ (List.mem_of_getElem? (i := 169) rfl) rfl
theorem la_Compiler_5 : (Jvm.Cond.lays "ColonMachine$Compiler" "ColonMachine$Compiler" "size" "I") ∈ TB := tbI1 _ (List.mem_of_getElem? (i := 171) rfl) rfl
theorem la_Compiler_6 : (Jvm.Cond.lays "ColonMachine$Compiler" "ColonMachine$Compiler" "compiling" "Z") ∈ TB := tbI1 _ (List.mem_of_getElem? (i := 173) rfl) rfl
theorem la_Compiler_7 : (Jvm.Cond.lays "ColonMachine$Compiler" "ColonMachine$Compiler" "name" "J") ∈ TB := tbI1 _ (List.mem_of_getElem? (i := 175) rfl) rfl
theorem la_Compiler_8 : (Jvm.Cond.laysFinal "ColonMachine$Compiler" "ColonMachine$Compiler" "openers" "LColonMachine$Cells;") ∈ TB := tbI1 _ (List.mem_of_getElem? (i := 177) rfl) rfl
theorem la_Compiler_9 : (Jvm.Cond.laysFinal "ColonMachine$Compiler" "ColonMachine$Compiler" "openPlaces" "LColonMachine$Cells;") ∈ TB := tbI1 _ (List.mem_of_getElem? (i := 179) rfl) rfl
theorem la_Item_0 : (Jvm.Cond.laysFinal "ColonMachine$Item" "ColonMachine$Item" "kind" "I") ∈ TB := tbI3 _ (List.mem_of_getElem? (i := 86) rfl) rfl
theorem la_Item_1 : (Jvm.Cond.laysFinal "ColonMachine$Item" "ColonMachine$Item" "text" "[I") ∈ TB := tbI3 _ (List.mem_of_getElem? (i := 88) rfl) rfl
theorem la_Item_2 : (Jvm.Cond.lays "ColonMachine$Item" "ColonMachine$Item" "value" "I") ∈ TB := tbI3 _ (List.mem_of_getElem? (i := 90) rfl) rfl
theorem la_Memory_0 : (Jvm.Cond.laysFinal "ColonMachine$Memory" "ColonMachine$Memory" "cells" "[I") ∈ TB := tbI1 _ (List.mem_of_getElem? (i := 84) rfl) rfl
theorem la_Memory_1 : (Jvm.Cond.laysFinal "ColonMachine$Memory" "ColonMachine$Memory" "blockOf" "[I") ∈ TB := tbI1 _ (List.mem_of_getElem? (i := 86) rfl) rfl
theorem la_Memory_2 : (Jvm.Cond.lays "ColonMachine$Memory" "ColonMachine$Memory" "here" "I") ∈ TB := tbI1 _ (List.mem_of_getElem? (i := 88) rfl) rfl
theorem la_Out_0 : (Jvm.Cond.laysFinal "ColonMachine$Out" "ColonMachine$Out" "bytes" "[I") ∈ TB := tbI1 _ (List.mem_of_getElem? (i := 99) rfl) rfl
theorem la_Out_1 : (Jvm.Cond.lays "ColonMachine$Out" "ColonMachine$Out" "size" "I") ∈ TB := tbI1 _ (List.mem_of_getElem? (i := 101) rfl) rfl
theorem la_Primitives_0 : (Jvm.Cond.laysFinal "ColonMachine$Primitives" "ColonMachine$Primitives" "data" "LColonMachine$Cells;") ∈ TB := tbI1 _ (List.mem_of_getElem? (i := 195) rfl) rfl
theorem la_Primitives_1 : (Jvm.Cond.laysFinal "ColonMachine$Primitives" "ColonMachine$Primitives" "returns" "LColonMachine$Cells;") ∈ TB := tbI1 _ (List.mem_of_getElem? (i := 197) rfl) rfl
theorem la_Primitives_2 : (Jvm.Cond.laysFinal "ColonMachine$Primitives" "ColonMachine$Primitives" "calls" "LColonMachine$Calls;") ∈ TB := tbI1 _ (List.mem_of_getElem? (i := 199) rfl) rfl
theorem la_Primitives_3 : (Jvm.Cond.laysFinal "ColonMachine$Primitives" "ColonMachine$Primitives" "memory" "LColonMachine$Memory;") ∈ TB := tbI1 _ (List.mem_of_getElem? (i := 201) rfl) rfl
theorem la_Primitives_4 : (Jvm.Cond.laysFinal "ColonMachine$Primitives" "ColonMachine$Primitives" "out" "LColonMachine$Out;") ∈ TB := tbI1 _ (List.mem_of_getElem? (i := 203) rfl) rfl
theorem la_Primitives_5 : (Jvm.Cond.laysFinal "ColonMachine$Primitives" "ColonMachine$Primitives" "text" "LColonMachine$Text;") ∈ TB := tbI1 _ (List.mem_of_getElem? (i := 205) rfl) rfl
theorem la_Primitives_6 : (Jvm.Cond.laysFinal "ColonMachine$Primitives" "ColonMachine$Primitives" "words" "LColonMachine$Words;") ∈ TB := tbI1 _ (List.mem_of_getElem? (i := 207) rfl) rfl
theorem la_Text_0 : (Jvm.Cond.laysFinal "ColonMachine$Text" "ColonMachine$Text" "bytes" "[I") ∈ TB := tbI1 _ (List.mem_of_getElem? (i := 115) rfl) rfl
theorem la_Text_1 : (Jvm.Cond.lays "ColonMachine$Text" "ColonMachine$Text" "begin" "I") ∈ TB := tbI1 _ (List.mem_of_getElem? (i := 117) rfl) rfl
theorem la_Text_2 : (Jvm.Cond.lays "ColonMachine$Text" "ColonMachine$Text" "end" "I") ∈ TB := tbI1 _ (List.mem_of_getElem? (i := 119) rfl) rfl
theorem la_Text_3 : (Jvm.Cond.lays "ColonMachine$Text" "ColonMachine$Text" "wordBegin" "I") ∈ TB := tbI1 _ (List.mem_of_getElem? (i := 121) rfl) rfl
theorem la_Text_4 : (Jvm.Cond.lays "ColonMachine$Text" "ColonMachine$Text" "wordEnd" "I") ∈ TB := tbI1 _ (List.mem_of_getElem? (i := 123) rfl) rfl
theorem la_Word_0 : (Jvm.Cond.laysFinal "ColonMachine$Word" "ColonMachine$Word" "name" "J") ∈ TB := tbI3 _ (List.mem_of_getElem? (i := 121) rfl) rfl
theorem la_Word_1 : (Jvm.Cond.laysFinal "ColonMachine$Word" "ColonMachine$Word" "kind" "I") ∈ TB := tbI3 _ (List.mem_of_getElem? (i := 123) rfl) rfl
theorem la_Word_2 : (Jvm.Cond.laysFinal "ColonMachine$Word" "ColonMachine$Word" "value" "I") ∈ TB := tbI3 _ (List.mem_of_getElem? (i := 125) rfl) rfl
theorem la_Word_3 : (Jvm.Cond.laysFinal "ColonMachine$Word" "ColonMachine$Word" "body" "[LColonMachine$Item;") ∈ TB := tbI3 _ (List.mem_of_getElem? (i := 127) rfl) rfl
theorem la_Word_4 : (Jvm.Cond.lays "ColonMachine$Word" "ColonMachine$Word" "immediate" "Z") ∈ TB := tbI3 _ (List.mem_of_getElem? (i := 129) rfl) rfl
theorem la_Word_5 : (Jvm.Cond.lays "ColonMachine$Word" "ColonMachine$Word" "behaviourOwner" "I") ∈ TB := tbI3 _ (List.mem_of_getElem? (i := 131) rfl) rfl
theorem la_Word_6 : (Jvm.Cond.lays "ColonMachine$Word" "ColonMachine$Word" "behaviourPlace" "I") ∈ TB := tbI3 _ (List.mem_of_getElem? (i := 133) rfl) rfl
theorem la_Words_0 : (Jvm.Cond.laysFinal "ColonMachine$Words" "ColonMachine$Words" "words" "[LColonMachine$Word;") ∈ TB := tbI1 _ (List.mem_of_getElem? (i := 136) rfl) rfl
theorem la_Words_1 : (Jvm.Cond.lays "ColonMachine$Words" "ColonMachine$Words" "size" "I") ∈ TB := tbI1 _ (List.mem_of_getElem? (i := 138) rfl) rfl
theorem la_Mach_0 : (Jvm.Cond.laysFinal "ColonMachine" "ColonMachine" "data" "LColonMachine$Cells;") ∈ TB := tbI1 _ (List.mem_of_getElem? (i := 220) rfl) rfl
theorem la_Mach_1 : (Jvm.Cond.laysFinal "ColonMachine" "ColonMachine" "returns" "LColonMachine$Cells;") ∈ TB := tbI1 _ (List.mem_of_getElem? (i := 222) rfl) rfl
theorem la_Mach_2 : (Jvm.Cond.laysFinal "ColonMachine" "ColonMachine" "calls" "LColonMachine$Calls;") ∈ TB := tbI1 _ (List.mem_of_getElem? (i := 224) rfl) rfl
theorem la_Mach_3 : (Jvm.Cond.laysFinal "ColonMachine" "ColonMachine" "memory" "LColonMachine$Memory;") ∈ TB := tbI1 _ (List.mem_of_getElem? (i := 226) rfl) rfl
theorem la_Mach_4 : (Jvm.Cond.laysFinal "ColonMachine" "ColonMachine" "out" "LColonMachine$Out;") ∈ TB := tbI1 _ (List.mem_of_getElem? (i := 228) rfl) rfl
theorem la_Mach_5 : (Jvm.Cond.laysFinal "ColonMachine" "ColonMachine" "text" "LColonMachine$Text;") ∈ TB := tbI1 _ (List.mem_of_getElem? (i := 230) rfl) rfl
theorem la_Mach_6 : (Jvm.Cond.laysFinal "ColonMachine" "ColonMachine" "words" "LColonMachine$Words;") ∈ TB := tbI1 _ (List.mem_of_getElem? (i := 232) rfl) rfl
theorem la_Mach_7 : (Jvm.Cond.laysFinal "ColonMachine" "ColonMachine" "compiler" "LColonMachine$Compiler;") ∈ TB := tbI1 _ (List.mem_of_getElem? (i := 234) rfl) rfl
theorem la_Mach_8 : (Jvm.Cond.laysFinal "ColonMachine" "ColonMachine" "primitives" "LColonMachine$Primitives;") ∈ TB := tbI1 _ (List.mem_of_getElem? (i := 236) rfl) rfl
theorem la_Mach_9 : (Jvm.Cond.lays "ColonMachine" "ColonMachine" "latestCode" "I") ∈ TB := tbI1 _ (List.mem_of_getElem? (i := 238) rfl) rfl
theorem la_Mod_0 : (Jvm.Cond.laysFinal "ColonMachineModel" "ColonMachineModel" "namesA" "[J") ∈ TB := tbI7 _ (List.mem_of_getElem? (i := 199) rfl) rfl
theorem la_Mod_1 : (Jvm.Cond.laysFinal "ColonMachineModel" "ColonMachineModel" "namesB" "[J") ∈ TB := tbI7 _ (List.mem_of_getElem? (i := 201) rfl) rfl
theorem la_Mod_2 : (Jvm.Cond.laysFinal "ColonMachineModel" "ColonMachineModel" "cellsA" "[I") ∈ TB := tbI7 _ (List.mem_of_getElem? (i := 203) rfl) rfl
theorem la_Mod_3 : (Jvm.Cond.laysFinal "ColonMachineModel" "ColonMachineModel" "cellsB" "[I") ∈ TB := tbI7 _ (List.mem_of_getElem? (i := 205) rfl) rfl
theorem la_Mod_4 : (Jvm.Cond.laysFinal "ColonMachineModel" "ColonMachineModel" "specials" "[J") ∈ TB := tbI7 _ (List.mem_of_getElem? (i := 207) rfl) rfl
theorem la_Mod_5 : (Jvm.Cond.laysFinal "ColonMachineModel" "ColonMachineModel" "data" "[I") ∈ TB := tbI7 _ (List.mem_of_getElem? (i := 209) rfl) rfl
theorem la_Mod_6 : (Jvm.Cond.lays "ColonMachineModel" "ColonMachineModel" "depth" "I") ∈ TB := tbI7 _ (List.mem_of_getElem? (i := 211) rfl) rfl
theorem la_Mod_7 : (Jvm.Cond.laysFinal "ColonMachineModel" "ColonMachineModel" "returns" "[I") ∈ TB := tbI7 _ (List.mem_of_getElem? (i := 213) rfl) rfl
theorem la_Mod_8 : (Jvm.Cond.lays "ColonMachineModel" "ColonMachineModel" "returned" "I") ∈ TB := tbI7 _ (List.mem_of_getElem? (i := 215) rfl) rfl
theorem la_Mod_9 : (Jvm.Cond.laysFinal "ColonMachineModel" "ColonMachineModel" "memory" "[I") ∈ TB := tbI7 _ (List.mem_of_getElem? (i := 217) rfl) rfl
theorem la_Mod_10 : (Jvm.Cond.lays "ColonMachineModel" "ColonMachineModel" "here" "I") ∈ TB := tbI7 _ (List.mem_of_getElem? (i := 219) rfl) rfl
theorem la_Mod_11 : (Jvm.Cond.lays "ColonMachineModel" "ColonMachineModel" "blocks" "I") ∈ TB := tbI7 _ (List.mem_of_getElem? (i := 221) rfl) rfl
theorem la_Mod_12 : (Jvm.Cond.laysFinal "ColonMachineModel" "ColonMachineModel" "blockAt" "[I") ∈ TB := tbI7 _ (List.mem_of_getElem? (i := 223) rfl) rfl
theorem la_Mod_13 : (Jvm.Cond.laysFinal "ColonMachineModel" "ColonMachineModel" "blockSize" "[I") ∈ TB := tbI7 _ (List.mem_of_getElem? (i := 225) rfl) rfl
theorem la_Mod_14 : (Jvm.Cond.lays "ColonMachineModel" "ColonMachineModel" "words" "I") ∈ TB := tbI7 _ (List.mem_of_getElem? (i := 227) rfl) rfl
theorem la_Mod_15 : (Jvm.Cond.laysFinal "ColonMachineModel" "ColonMachineModel" "name" "[J") ∈ TB := tbI7 _ (List.mem_of_getElem? (i := 229) rfl) rfl
theorem la_Mod_16 : (Jvm.Cond.laysFinal "ColonMachineModel" "ColonMachineModel" "kind" "[I") ∈ TB := tbI7 _ (List.mem_of_getElem? (i := 231) rfl) rfl
theorem la_Mod_17 : (Jvm.Cond.laysFinal "ColonMachineModel" "ColonMachineModel" "value" "[I") ∈ TB := tbI7 _ (List.mem_of_getElem? (i := 233) rfl) rfl
theorem la_Mod_18 : (Jvm.Cond.laysFinal "ColonMachineModel" "ColonMachineModel" "behaviour" "[I") ∈ TB := tbI7 _ (List.mem_of_getElem? (i := 235) rfl) rfl
theorem la_Mod_19 : (Jvm.Cond.laysFinal "ColonMachineModel" "ColonMachineModel" "behaviourAt" "[I") ∈ TB := tbI7 _ (List.mem_of_getElem? (i := 237) rfl) rfl
theorem la_Mod_20 : (Jvm.Cond.laysFinal "ColonMachineModel" "ColonMachineModel" "immediate" "[Z") ∈ TB := tbI7 _ (List.mem_of_getElem? (i := 239) rfl) rfl
theorem la_Mod_21 : (Jvm.Cond.laysFinal "ColonMachineModel" "ColonMachineModel" "saidAt" "[I") ∈ TB := tbI8 _ (List.mem_of_getElem? (i := 1) rfl) rfl
theorem la_Mod_22 : (Jvm.Cond.laysFinal "ColonMachineModel" "ColonMachineModel" "bodySize" "[I") ∈ TB := tbI8 _ (List.mem_of_getElem? (i := 3) rfl) rfl
theorem la_Mod_23 : (Jvm.Cond.laysFinal "ColonMachineModel" "ColonMachineModel" "op" "[I") ∈ TB := tbI8 _ (List.mem_of_getElem? (i := 5) rfl) rfl
theorem la_Mod_24 : (Jvm.Cond.laysFinal "ColonMachineModel" "ColonMachineModel" "argument" "[I") ∈ TB := tbI8 _ (List.mem_of_getElem? (i := 7) rfl) rfl
theorem la_Mod_25 : (Jvm.Cond.laysFinal "ColonMachineModel" "ColonMachineModel" "length" "[I") ∈ TB := tbI8 _ (List.mem_of_getElem? (i := 9) rfl) rfl
theorem la_Mod_26 : (Jvm.Cond.lays "ColonMachineModel" "ColonMachineModel" "said" "I") ∈ TB := tbI8 _ (List.mem_of_getElem? (i := 11) rfl) rfl
theorem la_Mod_27 : (Jvm.Cond.laysFinal "ColonMachineModel" "ColonMachineModel" "sayings" "[I") ∈ TB := tbI8 _ (List.mem_of_getElem? (i := 13) rfl) rfl
theorem la_Mod_28 : (Jvm.Cond.lays "ColonMachineModel" "ColonMachineModel" "calls" "I") ∈ TB := tbI8 _ (List.mem_of_getElem? (i := 15) rfl) rfl
theorem la_Mod_29 : (Jvm.Cond.laysFinal "ColonMachineModel" "ColonMachineModel" "callBody" "[I") ∈ TB := tbI8 _ (List.mem_of_getElem? (i := 17) rfl) rfl
theorem la_Mod_30 : (Jvm.Cond.laysFinal "ColonMachineModel" "ColonMachineModel" "callAt" "[I") ∈ TB := tbI8 _ (List.mem_of_getElem? (i := 19) rfl) rfl
theorem la_Mod_31 : (Jvm.Cond.laysFinal "ColonMachineModel" "ColonMachineModel" "callCells" "[I") ∈ TB := tbI8 _ (List.mem_of_getElem? (i := 21) rfl) rfl
theorem la_Mod_32 : (Jvm.Cond.laysFinal "ColonMachineModel" "ColonMachineModel" "callReturns" "[I") ∈ TB := tbI8 _ (List.mem_of_getElem? (i := 23) rfl) rfl
theorem la_Mod_33 : (Jvm.Cond.lays "ColonMachineModel" "ColonMachineModel" "size" "I") ∈ TB := tbI8 _ (List.mem_of_getElem? (i := 25) rfl) rfl
theorem la_Mod_34 : (Jvm.Cond.lays "ColonMachineModel" "ColonMachineModel" "at" "I") ∈ TB := tbI8 _ (List.mem_of_getElem? (i := 27) rfl) rfl
theorem la_Mod_35 : (Jvm.Cond.laysFinal "ColonMachineModel" "ColonMachineModel" "text" "[I") ∈ TB := tbI8 _ (List.mem_of_getElem? (i := 29) rfl) rfl
theorem la_Mod_36 : (Jvm.Cond.lays "ColonMachineModel" "ColonMachineModel" "outSize" "I") ∈ TB := tbI8 _ (List.mem_of_getElem? (i := 31) rfl) rfl
theorem la_Mod_37 : (Jvm.Cond.laysFinal "ColonMachineModel" "ColonMachineModel" "out" "[I") ∈ TB := tbI8 _ (List.mem_of_getElem? (i := 33) rfl) rfl
theorem la_Mod_38 : (Jvm.Cond.lays "ColonMachineModel" "ColonMachineModel" "compiling" "Z") ∈ TB := tbI8 _ (List.mem_of_getElem? (i := 35) rfl) rfl
theorem la_Mod_39 : (Jvm.Cond.lays "ColonMachineModel" "ColonMachineModel" "gaps" "I") ∈ TB := tbI8 _ (List.mem_of_getElem? (i := 37) rfl) rfl
theorem la_Mod_40 : (Jvm.Cond.laysFinal "ColonMachineModel" "ColonMachineModel" "gapKind" "[I") ∈ TB := tbI8 _ (List.mem_of_getElem? (i := 39) rfl) rfl
theorem la_Mod_41 : (Jvm.Cond.laysFinal "ColonMachineModel" "ColonMachineModel" "gapAt" "[I") ∈ TB := tbI8 _ (List.mem_of_getElem? (i := 41) rfl) rfl
theorem la_Mod_42 : (Jvm.Cond.lays "ColonMachineModel" "ColonMachineModel" "fault" "I") ∈ TB := tbI8 _ (List.mem_of_getElem? (i := 43) rfl) rfl
theorem la_Mod_43 : (Jvm.Cond.lays "ColonMachineModel" "ColonMachineModel" "error" "I") ∈ TB := tbI8 _ (List.mem_of_getElem? (i := 45) rfl) rfl
theorem la_Mod_44 : (Jvm.Cond.lays "ColonMachineModel" "ColonMachineModel" "code" "I") ∈ TB := tbI8 _ (List.mem_of_getElem? (i := 47) rfl) rfl
theorem la_Mod_45 : (Jvm.Cond.lays "ColonMachineModel" "ColonMachineModel" "key" "J") ∈ TB := tbI8 _ (List.mem_of_getElem? (i := 49) rfl) rfl
theorem la_Mod_46 : (Jvm.Cond.lays "ColonMachineModel" "ColonMachineModel" "wordAt" "I") ∈ TB := tbI8 _ (List.mem_of_getElem? (i := 51) rfl) rfl
theorem la_Mod_47 : (Jvm.Cond.lays "ColonMachineModel" "ColonMachineModel" "wordSize" "I") ∈ TB := tbI8 _ (List.mem_of_getElem? (i := 53) rfl) rfl
def T_Calls : u_T := fun k => match k with
  | 0 => ("ColonMachine$Calls", "owners", "[I", true)
  | 1 => ("ColonMachine$Calls", "places", "[I", true)
  | 2 => ("ColonMachine$Calls", "returnSizes", "[I", true)
  | 3 => ("ColonMachine$Calls", "dataSizes", "[I", true)
  | _ => ("ColonMachine$Calls", "size", "I", false)
def t_Calls : Nat → FieldType := fun k => match k with
  | 0 => (.array .int)
  | 1 => (.array .int)
  | 2 => (.array .int)
  | 3 => (.array .int)
  | _ => .int
theorem n_Calls : ∀ a, a < 5 → ∀ b, b < 5 → a ≠ b → (T_Calls a).2.1 ≠ (T_Calls b).2.1 := by decide +kernel
theorem tk_Calls : ∀ k, k < 5 → parseFieldDescriptor (T_Calls k).2.2.1 = some (t_Calls k) := by decide +kernel
theorem i_Calls : ∀ w ∈ u_ws "ColonMachine$Calls" T_Calls 5, w ∈ TB := List.forall_mem_cons.2 ⟨la_Calls_0, List.forall_mem_cons.2 ⟨la_Calls_1, List.forall_mem_cons.2 ⟨la_Calls_2, List.forall_mem_cons.2 ⟨la_Calls_3, List.forall_mem_cons.2 ⟨la_Calls_4, fun _ h => absurd h List.not_mem_nil⟩⟩⟩⟩⟩
def T_Cells : u_T := fun k => match k with
  | 0 => ("ColonMachine$Cells", "cells", "[I", true)
  | _ => ("ColonMachine$Cells", "size", "I", false)
def t_Cells : Nat → FieldType := fun k => match k with
  | 0 => (.array .int)
  | _ => .int
theorem n_Cells : ∀ a, a < 2 → ∀ b, b < 2 → a ≠ b → (T_Cells a).2.1 ≠ (T_Cells b).2.1 := by decide +kernel
theorem tk_Cells : ∀ k, k < 2 → parseFieldDescriptor (T_Cells k).2.2.1 = some (t_Cells k) := by decide +kernel
theorem i_Cells : ∀ w ∈ u_ws "ColonMachine$Cells" T_Cells 2, w ∈ TB := List.forall_mem_cons.2 ⟨la_Cells_0, List.forall_mem_cons.2 ⟨la_Cells_1, fun _ h => absurd h List.not_mem_nil⟩⟩
def T_Compiler : u_T := fun k => match k with
  | 0 => ("ColonMachine$Compiler", "text", "LColonMachine$Text;", true)
  | 1 => ("ColonMachine$Compiler", "words", "LColonMachine$Words;", true)
  | 2 => ("ColonMachine$Compiler", "memory", "LColonMachine$Memory;", true)
  | 3 => ("ColonMachine$Compiler", "out", "LColonMachine$Out;", true)
  | 4 => ("ColonMachine$Compiler", "items", "[LColonMachine$Item;", true)
  | 5 => ("ColonMachine$Compiler", "size", "I", false)
  | 6 => ("ColonMachine$Compiler", "compiling", "Z", false)
  | 7 => ("ColonMachine$Compiler", "name", "J", false)
  | 8 => ("ColonMachine$Compiler", "openers", "LColonMachine$Cells;", true)
  | _ => ("ColonMachine$Compiler", "openPlaces", "LColonMachine$Cells;", true)
def t_Compiler : Nat → FieldType := fun k => match k with
  | 0 => (.object "ColonMachine$Text")
  | 1 => (.object "ColonMachine$Words")
  | 2 => (.object "ColonMachine$Memory")
  | 3 => (.object "ColonMachine$Out")
  | 4 => (.array (.object "ColonMachine$Item"))
  | 5 => .int
  | 6 => .boolean
  | 7 => .long
  | 8 => (.object "ColonMachine$Cells")
  | _ => (.object "ColonMachine$Cells")
theorem n_Compiler : ∀ a, a < 10 → ∀ b, b < 10 → a ≠ b → (T_Compiler a).2.1 ≠ (T_Compiler b).2.1 := by decide +kernel
theorem tk_Compiler : ∀ k, k < 10 → parseFieldDescriptor (T_Compiler k).2.2.1 = some (t_Compiler k) := by decide +kernel
theorem i_Compiler : ∀ w ∈ u_ws "ColonMachine$Compiler" T_Compiler 10, w ∈ TB := List.forall_mem_cons.2 ⟨la_Compiler_0, List.forall_mem_cons.2 ⟨la_Compiler_1, List.forall_mem_cons.2 ⟨la_Compiler_2, List.forall_mem_cons.2 ⟨la_Compiler_3, List.forall_mem_cons.2 ⟨la_Compiler_4, List.forall_mem_cons.2 ⟨la_Compiler_5, List.forall_mem_cons.2 ⟨la_Compiler_6, List.forall_mem_cons.2 ⟨la_Compiler_7, List.forall_mem_cons.2 ⟨la_Compiler_8, List.forall_mem_cons.2 ⟨la_Compiler_9, fun _ h => absurd h List.not_mem_nil⟩⟩⟩⟩⟩⟩⟩⟩⟩⟩
def T_Item : u_T := fun k => match k with
  | 0 => ("ColonMachine$Item", "kind", "I", true)
  | 1 => ("ColonMachine$Item", "text", "[I", true)
  | _ => ("ColonMachine$Item", "value", "I", false)
def t_Item : Nat → FieldType := fun k => match k with
  | 0 => .int
  | 1 => (.array .int)
  | _ => .int
theorem n_Item : ∀ a, a < 3 → ∀ b, b < 3 → a ≠ b → (T_Item a).2.1 ≠ (T_Item b).2.1 := by decide +kernel
theorem tk_Item : ∀ k, k < 3 → parseFieldDescriptor (T_Item k).2.2.1 = some (t_Item k) := by decide +kernel
theorem i_Item : ∀ w ∈ u_ws "ColonMachine$Item" T_Item 3, w ∈ TB := List.forall_mem_cons.2 ⟨la_Item_0, List.forall_mem_cons.2 ⟨la_Item_1, List.forall_mem_cons.2 ⟨la_Item_2, fun _ h => absurd h List.not_mem_nil⟩⟩⟩
def T_Memory : u_T := fun k => match k with
  | 0 => ("ColonMachine$Memory", "cells", "[I", true)
  | 1 => ("ColonMachine$Memory", "blockOf", "[I", true)
  | _ => ("ColonMachine$Memory", "here", "I", false)
def t_Memory : Nat → FieldType := fun k => match k with
  | 0 => (.array .int)
  | 1 => (.array .int)
  | _ => .int
theorem n_Memory : ∀ a, a < 3 → ∀ b, b < 3 → a ≠ b → (T_Memory a).2.1 ≠ (T_Memory b).2.1 := by decide +kernel
theorem tk_Memory : ∀ k, k < 3 → parseFieldDescriptor (T_Memory k).2.2.1 = some (t_Memory k) := by decide +kernel
theorem i_Memory : ∀ w ∈ u_ws "ColonMachine$Memory" T_Memory 3, w ∈ TB := List.forall_mem_cons.2 ⟨la_Memory_0, List.forall_mem_cons.2 ⟨la_Memory_1, List.forall_mem_cons.2 ⟨la_Memory_2, fun _ h => absurd h List.not_mem_nil⟩⟩⟩
def T_Out : u_T := fun k => match k with
  | 0 => ("ColonMachine$Out", "bytes", "[I", true)
  | _ => ("ColonMachine$Out", "size", "I", false)
def t_Out : Nat → FieldType := fun k => match k with
  | 0 => (.array .int)
  | _ => .int
theorem n_Out : ∀ a, a < 2 → ∀ b, b < 2 → a ≠ b → (T_Out a).2.1 ≠ (T_Out b).2.1 := by decide +kernel
theorem tk_Out : ∀ k, k < 2 → parseFieldDescriptor (T_Out k).2.2.1 = some (t_Out k) := by decide +kernel
theorem i_Out : ∀ w ∈ u_ws "ColonMachine$Out" T_Out 2, w ∈ TB := List.forall_mem_cons.2 ⟨la_Out_0, List.forall_mem_cons.2 ⟨la_Out_1, fun _ h => absurd h List.not_mem_nil⟩⟩
def T_Primitives : u_T := fun k => match k with
  | 0 => ("ColonMachine$Primitives", "data", "LColonMachine$Cells;", true)
  | 1 => ("ColonMachine$Primitives", "returns", "LColonMachine$Cells;", true)
  | 2 => ("ColonMachine$Primitives", "calls", "LColonMachine$Calls;", true)
  | 3 => ("ColonMachine$Primitives", "memory", "LColonMachine$Memory;", true)
  | 4 => ("ColonMachine$Primitives", "out", "LColonMachine$Out;", true)
  | 5 => ("ColonMachine$Primitives", "text", "LColonMachine$Text;", true)
  | _ => ("ColonMachine$Primitives", "words", "LColonMachine$Words;", true)
def t_Primitives : Nat → FieldType := fun k => match k with
  | 0 => (.object "ColonMachine$Cells")
  | 1 => (.object "ColonMachine$Cells")
  | 2 => (.object "ColonMachine$Calls")
  | 3 => (.object "ColonMachine$Memory")
  | 4 => (.object "ColonMachine$Out")
  | 5 => (.object "ColonMachine$Text")
  | _ => (.object "ColonMachine$Words")
theorem n_Primitives : ∀ a, a < 7 → ∀ b, b < 7 → a ≠ b → (T_Primitives a).2.1 ≠ (T_Primitives b).2.1 := by decide +kernel
theorem tk_Primitives : ∀ k, k < 7 → parseFieldDescriptor (T_Primitives k).2.2.1 = some (t_Primitives k) := by decide +kernel
theorem i_Primitives : ∀ w ∈ u_ws "ColonMachine$Primitives" T_Primitives 7, w ∈ TB := List.forall_mem_cons.2 ⟨la_Primitives_0, List.forall_mem_cons.2 ⟨la_Primitives_1, List.forall_mem_cons.2 ⟨la_Primitives_2, List.forall_mem_cons.2 ⟨la_Primitives_3, List.forall_mem_cons.2 ⟨la_Primitives_4, List.forall_mem_cons.2 ⟨la_Primitives_5, List.forall_mem_cons.2 ⟨la_Primitives_6, fun _ h => absurd h List.not_mem_nil⟩⟩⟩⟩⟩⟩⟩
def T_Text : u_T := fun k => match k with
  | 0 => ("ColonMachine$Text", "bytes", "[I", true)
  | 1 => ("ColonMachine$Text", "begin", "I", false)
  | 2 => ("ColonMachine$Text", "end", "I", false)
  | 3 => ("ColonMachine$Text", "wordBegin", "I", false)
  | _ => ("ColonMachine$Text", "wordEnd", "I", false)
def t_Text : Nat → FieldType := fun k => match k with
  | 0 => (.array .int)
  | 1 => .int
  | 2 => .int
  | 3 => .int
  | _ => .int
theorem n_Text : ∀ a, a < 5 → ∀ b, b < 5 → a ≠ b → (T_Text a).2.1 ≠ (T_Text b).2.1 := by decide +kernel
theorem tk_Text : ∀ k, k < 5 → parseFieldDescriptor (T_Text k).2.2.1 = some (t_Text k) := by decide +kernel
theorem i_Text : ∀ w ∈ u_ws "ColonMachine$Text" T_Text 5, w ∈ TB := List.forall_mem_cons.2 ⟨la_Text_0, List.forall_mem_cons.2 ⟨la_Text_1, List.forall_mem_cons.2 ⟨la_Text_2, List.forall_mem_cons.2 ⟨la_Text_3, List.forall_mem_cons.2 ⟨la_Text_4, fun _ h => absurd h List.not_mem_nil⟩⟩⟩⟩⟩
def T_Word : u_T := fun k => match k with
  | 0 => ("ColonMachine$Word", "name", "J", true)
  | 1 => ("ColonMachine$Word", "kind", "I", true)
  | 2 => ("ColonMachine$Word", "value", "I", true)
  | 3 => ("ColonMachine$Word", "body", "[LColonMachine$Item;", true)
  | 4 => ("ColonMachine$Word", "immediate", "Z", false)
  | 5 => ("ColonMachine$Word", "behaviourOwner", "I", false)
  | _ => ("ColonMachine$Word", "behaviourPlace", "I", false)
def t_Word : Nat → FieldType := fun k => match k with
  | 0 => .long
  | 1 => .int
  | 2 => .int
  | 3 => (.array (.object "ColonMachine$Item"))
  | 4 => .boolean
  | 5 => .int
  | _ => .int
theorem n_Word : ∀ a, a < 7 → ∀ b, b < 7 → a ≠ b → (T_Word a).2.1 ≠ (T_Word b).2.1 := by decide +kernel
theorem tk_Word : ∀ k, k < 7 → parseFieldDescriptor (T_Word k).2.2.1 = some (t_Word k) := by decide +kernel
theorem i_Word : ∀ w ∈ u_ws "ColonMachine$Word" T_Word 7, w ∈ TB := List.forall_mem_cons.2 ⟨la_Word_0, List.forall_mem_cons.2 ⟨la_Word_1, List.forall_mem_cons.2 ⟨la_Word_2, List.forall_mem_cons.2 ⟨la_Word_3, List.forall_mem_cons.2 ⟨la_Word_4, List.forall_mem_cons.2 ⟨la_Word_5, List.forall_mem_cons.2 ⟨la_Word_6, fun _ h => absurd h List.not_mem_nil⟩⟩⟩⟩⟩⟩⟩
def T_Words : u_T := fun k => match k with
  | 0 => ("ColonMachine$Words", "words", "[LColonMachine$Word;", true)
  | _ => ("ColonMachine$Words", "size", "I", false)
def t_Words : Nat → FieldType := fun k => match k with
  | 0 => (.array (.object "ColonMachine$Word"))
  | _ => .int
theorem n_Words : ∀ a, a < 2 → ∀ b, b < 2 → a ≠ b → (T_Words a).2.1 ≠ (T_Words b).2.1 := by decide +kernel
theorem tk_Words : ∀ k, k < 2 → parseFieldDescriptor (T_Words k).2.2.1 = some (t_Words k) := by decide +kernel
theorem i_Words : ∀ w ∈ u_ws "ColonMachine$Words" T_Words 2, w ∈ TB := List.forall_mem_cons.2 ⟨la_Words_0, List.forall_mem_cons.2 ⟨la_Words_1, fun _ h => absurd h List.not_mem_nil⟩⟩
def T_Mach : u_T := fun k => match k with
  | 0 => ("ColonMachine", "data", "LColonMachine$Cells;", true)
  | 1 => ("ColonMachine", "returns", "LColonMachine$Cells;", true)
  | 2 => ("ColonMachine", "calls", "LColonMachine$Calls;", true)
  | 3 => ("ColonMachine", "memory", "LColonMachine$Memory;", true)
  | 4 => ("ColonMachine", "out", "LColonMachine$Out;", true)
  | 5 => ("ColonMachine", "text", "LColonMachine$Text;", true)
  | 6 => ("ColonMachine", "words", "LColonMachine$Words;", true)
  | 7 => ("ColonMachine", "compiler", "LColonMachine$Compiler;", true)
  | 8 => ("ColonMachine", "primitives", "LColonMachine$Primitives;", true)
  | _ => ("ColonMachine", "latestCode", "I", false)
def t_Mach : Nat → FieldType := fun k => match k with
  | 0 => (.object "ColonMachine$Cells")
  | 1 => (.object "ColonMachine$Cells")
  | 2 => (.object "ColonMachine$Calls")
  | 3 => (.object "ColonMachine$Memory")
  | 4 => (.object "ColonMachine$Out")
  | 5 => (.object "ColonMachine$Text")
  | 6 => (.object "ColonMachine$Words")
  | 7 => (.object "ColonMachine$Compiler")
  | 8 => (.object "ColonMachine$Primitives")
  | _ => .int
theorem n_Mach : ∀ a, a < 10 → ∀ b, b < 10 → a ≠ b → (T_Mach a).2.1 ≠ (T_Mach b).2.1 := by decide +kernel
theorem tk_Mach : ∀ k, k < 10 → parseFieldDescriptor (T_Mach k).2.2.1 = some (t_Mach k) := by decide +kernel
theorem i_Mach : ∀ w ∈ u_ws "ColonMachine" T_Mach 10, w ∈ TB := List.forall_mem_cons.2 ⟨la_Mach_0, List.forall_mem_cons.2 ⟨la_Mach_1, List.forall_mem_cons.2 ⟨la_Mach_2, List.forall_mem_cons.2 ⟨la_Mach_3, List.forall_mem_cons.2 ⟨la_Mach_4, List.forall_mem_cons.2 ⟨la_Mach_5, List.forall_mem_cons.2 ⟨la_Mach_6, List.forall_mem_cons.2 ⟨la_Mach_7, List.forall_mem_cons.2 ⟨la_Mach_8, List.forall_mem_cons.2 ⟨la_Mach_9, fun _ h => absurd h List.not_mem_nil⟩⟩⟩⟩⟩⟩⟩⟩⟩⟩
def T_Mod : u_T := fun k => match k with
  | 0 => ("ColonMachineModel", "namesA", "[J", true)
  | 1 => ("ColonMachineModel", "namesB", "[J", true)
  | 2 => ("ColonMachineModel", "cellsA", "[I", true)
  | 3 => ("ColonMachineModel", "cellsB", "[I", true)
  | 4 => ("ColonMachineModel", "specials", "[J", true)
  | 5 => ("ColonMachineModel", "data", "[I", true)
  | 6 => ("ColonMachineModel", "depth", "I", false)
  | 7 => ("ColonMachineModel", "returns", "[I", true)
  | 8 => ("ColonMachineModel", "returned", "I", false)
  | 9 => ("ColonMachineModel", "memory", "[I", true)
  | 10 => ("ColonMachineModel", "here", "I", false)
  | 11 => ("ColonMachineModel", "blocks", "I", false)
  | 12 => ("ColonMachineModel", "blockAt", "[I", true)
  | 13 => ("ColonMachineModel", "blockSize", "[I", true)
  | 14 => ("ColonMachineModel", "words", "I", false)
  | 15 => ("ColonMachineModel", "name", "[J", true)
  | 16 => ("ColonMachineModel", "kind", "[I", true)
  | 17 => ("ColonMachineModel", "value", "[I", true)
  | 18 => ("ColonMachineModel", "behaviour", "[I", true)
  | 19 => ("ColonMachineModel", "behaviourAt", "[I", true)
  | 20 => ("ColonMachineModel", "immediate", "[Z", true)
  | 21 => ("ColonMachineModel", "saidAt", "[I", true)
  | 22 => ("ColonMachineModel", "bodySize", "[I", true)
  | 23 => ("ColonMachineModel", "op", "[I", true)
  | 24 => ("ColonMachineModel", "argument", "[I", true)
  | 25 => ("ColonMachineModel", "length", "[I", true)
  | 26 => ("ColonMachineModel", "said", "I", false)
  | 27 => ("ColonMachineModel", "sayings", "[I", true)
  | 28 => ("ColonMachineModel", "calls", "I", false)
  | 29 => ("ColonMachineModel", "callBody", "[I", true)
  | 30 => ("ColonMachineModel", "callAt", "[I", true)
  | 31 => ("ColonMachineModel", "callCells", "[I", true)
  | 32 => ("ColonMachineModel", "callReturns", "[I", true)
  | 33 => ("ColonMachineModel", "size", "I", false)
  | 34 => ("ColonMachineModel", "at", "I", false)
  | 35 => ("ColonMachineModel", "text", "[I", true)
  | 36 => ("ColonMachineModel", "outSize", "I", false)
  | 37 => ("ColonMachineModel", "out", "[I", true)
  | 38 => ("ColonMachineModel", "compiling", "Z", false)
  | 39 => ("ColonMachineModel", "gaps", "I", false)
  | 40 => ("ColonMachineModel", "gapKind", "[I", true)
  | 41 => ("ColonMachineModel", "gapAt", "[I", true)
  | 42 => ("ColonMachineModel", "fault", "I", false)
  | 43 => ("ColonMachineModel", "error", "I", false)
  | 44 => ("ColonMachineModel", "code", "I", false)
  | 45 => ("ColonMachineModel", "key", "J", false)
  | 46 => ("ColonMachineModel", "wordAt", "I", false)
  | _ => ("ColonMachineModel", "wordSize", "I", false)
def t_Mod : Nat → FieldType := fun k => match k with
  | 0 => (.array .long)
  | 1 => (.array .long)
  | 2 => (.array .int)
  | 3 => (.array .int)
  | 4 => (.array .long)
  | 5 => (.array .int)
  | 6 => .int
  | 7 => (.array .int)
  | 8 => .int
  | 9 => (.array .int)
  | 10 => .int
  | 11 => .int
  | 12 => (.array .int)
  | 13 => (.array .int)
  | 14 => .int
  | 15 => (.array .long)
  | 16 => (.array .int)
  | 17 => (.array .int)
  | 18 => (.array .int)
  | 19 => (.array .int)
  | 20 => (.array .boolean)
  | 21 => (.array .int)
  | 22 => (.array .int)
  | 23 => (.array .int)
  | 24 => (.array .int)
  | 25 => (.array .int)
  | 26 => .int
  | 27 => (.array .int)
  | 28 => .int
  | 29 => (.array .int)
  | 30 => (.array .int)
  | 31 => (.array .int)
  | 32 => (.array .int)
  | 33 => .int
  | 34 => .int
  | 35 => (.array .int)
  | 36 => .int
  | 37 => (.array .int)
  | 38 => .boolean
  | 39 => .int
  | 40 => (.array .int)
  | 41 => (.array .int)
  | 42 => .int
  | 43 => .int
  | 44 => .int
  | 45 => .long
  | 46 => .int
  | _ => .int
theorem n_Mod : ∀ a, a < 48 → ∀ b, b < 48 → a ≠ b → (T_Mod a).2.1 ≠ (T_Mod b).2.1 := by decide +kernel
theorem tk_Mod : ∀ k, k < 48 → parseFieldDescriptor (T_Mod k).2.2.1 = some (t_Mod k) := by decide +kernel
theorem i_Mod : ∀ w ∈ u_ws "ColonMachineModel" T_Mod 48, w ∈ TB := List.forall_mem_cons.2 ⟨la_Mod_0, List.forall_mem_cons.2 ⟨la_Mod_1, List.forall_mem_cons.2 ⟨la_Mod_2, List.forall_mem_cons.2 ⟨la_Mod_3, List.forall_mem_cons.2 ⟨la_Mod_4, List.forall_mem_cons.2 ⟨la_Mod_5, List.forall_mem_cons.2 ⟨la_Mod_6, List.forall_mem_cons.2 ⟨la_Mod_7, List.forall_mem_cons.2 ⟨la_Mod_8, List.forall_mem_cons.2 ⟨la_Mod_9, List.forall_mem_cons.2 ⟨la_Mod_10, List.forall_mem_cons.2 ⟨la_Mod_11, List.forall_mem_cons.2 ⟨la_Mod_12, List.forall_mem_cons.2 ⟨la_Mod_13, List.forall_mem_cons.2 ⟨la_Mod_14, List.forall_mem_cons.2 ⟨la_Mod_15, List.forall_mem_cons.2 ⟨la_Mod_16, List.forall_mem_cons.2 ⟨la_Mod_17, List.forall_mem_cons.2 ⟨la_Mod_18, List.forall_mem_cons.2 ⟨la_Mod_19, List.forall_mem_cons.2 ⟨la_Mod_20, List.forall_mem_cons.2 ⟨la_Mod_21, List.forall_mem_cons.2 ⟨la_Mod_22, List.forall_mem_cons.2 ⟨la_Mod_23, List.forall_mem_cons.2 ⟨la_Mod_24, List.forall_mem_cons.2 ⟨la_Mod_25, List.forall_mem_cons.2 ⟨la_Mod_26, List.forall_mem_cons.2 ⟨la_Mod_27, List.forall_mem_cons.2 ⟨la_Mod_28, List.forall_mem_cons.2 ⟨la_Mod_29, List.forall_mem_cons.2 ⟨la_Mod_30, List.forall_mem_cons.2 ⟨la_Mod_31, List.forall_mem_cons.2 ⟨la_Mod_32, List.forall_mem_cons.2 ⟨la_Mod_33, List.forall_mem_cons.2 ⟨la_Mod_34, List.forall_mem_cons.2 ⟨la_Mod_35, List.forall_mem_cons.2 ⟨la_Mod_36, List.forall_mem_cons.2 ⟨la_Mod_37, List.forall_mem_cons.2 ⟨la_Mod_38, List.forall_mem_cons.2 ⟨la_Mod_39, List.forall_mem_cons.2 ⟨la_Mod_40, List.forall_mem_cons.2 ⟨la_Mod_41, List.forall_mem_cons.2 ⟨la_Mod_42, List.forall_mem_cons.2 ⟨la_Mod_43, List.forall_mem_cons.2 ⟨la_Mod_44, List.forall_mem_cons.2 ⟨la_Mod_45, List.forall_mem_cons.2 ⟨la_Mod_46, List.forall_mem_cons.2 ⟨la_Mod_47, fun _ h => absurd h List.not_mem_nil⟩⟩⟩⟩⟩⟩⟩⟩⟩⟩⟩⟩⟩⟩⟩⟩⟩⟩⟩⟩⟩⟩⟩⟩⟩⟩⟩⟩⟩⟩⟩⟩⟩⟩⟩⟩⟩⟩⟩⟩⟩⟩⟩⟩⟩⟩⟩⟩
abbrev classes : List vw_C := [("ColonMachine$Calls", T_Calls, 5), ("ColonMachine$Cells", T_Cells, 2), ("ColonMachine$Compiler", T_Compiler, 10), ("ColonMachine$Item", T_Item, 3), ("ColonMachine$Memory", T_Memory, 3), ("ColonMachine$Out", T_Out, 2), ("ColonMachine$Primitives", T_Primitives, 7), ("ColonMachine$Text", T_Text, 5), ("ColonMachine$Word", T_Word, 7), ("ColonMachine$Words", T_Words, 2), ("ColonMachine", T_Mach, 10), ("ColonMachineModel", T_Mod, 48)]
