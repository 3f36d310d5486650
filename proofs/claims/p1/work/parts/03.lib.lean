/-! own rows: a contract's start and end, calls that put the caller's world back in its order -/
/-- one step of a pure picture: a value gets a name -/
def bd {α β : Type} (x : α) (k : α → β) : β := k x
theorem bd_e {α β : Type} {x q : α} {k : α → β} (h : x = q) : bd x k = k q := by rw [h]; rfl
/-- what the tables and the heap say outside of the worlds: links within the nest, arrays of own classes -/
def nl_Calls : Cond := .methodLinkNest "ColonMachine" 23 { cls := "ColonMachine$Calls", name := "<init>", desc := "()V" } "ColonMachine"
def nl_Out : Cond := .methodLinkNest "ColonMachine" 37 { cls := "ColonMachine$Out", name := "<init>", desc := "()V" } "ColonMachine"
def nl_Text : Cond := .methodLinkNest "ColonMachine" 44 { cls := "ColonMachine$Text", name := "<init>", desc := "()V" } "ColonMachine"
def nl_Words : Cond := .methodLinkNest "ColonMachine" 51 { cls := "ColonMachine$Words", name := "<init>", desc := "()V" } "ColonMachine"
def cs_A : Cond := .castable "java/lang/IllegalArgumentException" "java/lang/IllegalArgumentException"
def cs_B : Cond := .castable "java/lang/IndexOutOfBoundsException" "java/lang/IndexOutOfBoundsException"
def es_1 : Cond := .laysStatic "java/lang/Throwable" "UNASSIGNED_STACK" "[Ljava/lang/StackTraceElement;"
def es_2 : Cond := .laysStatic "java/lang/Throwable" "SUPPRESSED_SENTINEL" "Ljava/util/List;"
def es_3 : Cond := .isRef (.static "java/lang/Throwable" "UNASSIGNED_STACK" "[Ljava/lang/StackTraceElement;")
def es_4 : Cond := .isRef (.static "java/lang/Throwable" "SUPPRESSED_SENTINEL" "Ljava/util/List;")
def dc_1 : Cond := .declares ⟨"java/lang/RuntimeException", "<init>", "(Ljava/lang/String;)V"⟩
def dc_2 : Cond := .declares ⟨"java/lang/Exception", "<init>", "(Ljava/lang/String;)V"⟩
def dc_3 : Cond := .declares ⟨"java/lang/Throwable", "<init>", "(Ljava/lang/String;)V"⟩
def EM (U : State) : Prop := va_Nw nl_Calls U ∧ va_Nw nl_Out U ∧ va_Nw nl_Text U ∧ va_Nw nl_Words U ∧ va_AO "ColonMachine$Word" U ∧ va_AO "ColonMachine$Item" U ∧ va_Nw cs_A U ∧ va_Nw cs_B U ∧ (va_Nw dc_1 U ∧ va_Nw dc_2 U ∧ va_Nw dc_3 U) ∧
  (∃ q, vk_R "ColonMachine" 80 "n is not 1 .. 8" q U) ∧ (∃ q, vk_R "ColonMachine" 102 "n is not 1 .. 5000" q U) ∧ (∃ q, vk_R "ColonMachine" 123 "the data stack has no such cell" q U) ∧ ∃ q, vk_R "ColonMachine" 139 "the cell is not valid" q U
theorem EM.moved {s U : State} (hW : s.WarmedH U.vm) (h : EM s) : EM U := by
  obtain ⟨h1, h2, h3, h4, h5, h6, h7, h8, ⟨d1, d2, d3⟩, ⟨q1, g1⟩, ⟨q2, g2⟩, ⟨q3, g3⟩, ⟨q4, g4⟩⟩ := h
  exact ⟨va_Nw.warmM hW h1, va_Nw.warmM hW h2, va_Nw.warmM hW h3, va_Nw.warmM hW h4, va_AO.moved hW.alike h5, va_AO.moved hW.alike h6, va_Nw.warmC hW h7, va_Nw.warmC hW h8, ⟨va_Nw.warmD hW d1, va_Nw.warmD hW d2, va_Nw.warmD hW d3⟩, ⟨q1, vk_R.warm hW g1⟩, ⟨q2, vk_R.warm hW g2⟩, ⟨q3, vk_R.warm hW g3⟩, ⟨q4, vk_R.warm hW g4⟩⟩
theorem EM.same {u U : State} (hv : u.vm = U.vm) (h : EM u) : EM U := by
  obtain ⟨h1, h2, h3, h4, h5, h6, h7, h8, ⟨d1, d2, d3⟩, ⟨q1, g1⟩, ⟨q2, g2⟩, ⟨q3, g3⟩, ⟨q4, g4⟩⟩ := h
  exact ⟨va_Nw.same rfl hv h1, va_Nw.same rfl hv h2, va_Nw.same rfl hv h3, va_Nw.same rfl hv h4, va_AO.moved (by rw [hv]; exact Vm.Alike.refl _) h5, va_AO.moved (by rw [hv]; exact Vm.Alike.refl _) h6, va_Nw.same rfl hv h7, va_Nw.same rfl hv h8, ⟨va_Nw.same rfl hv d1, va_Nw.same rfl hv d2, va_Nw.same rfl hv d3⟩, ⟨q1, vk_R.same hv.symm g1⟩, ⟨q2, vk_R.same hv.symm g2⟩, ⟨q3, vk_R.same hv.symm g3⟩, ⟨q4, vk_R.same hv.symm g4⟩⟩
/-- a static of Throwable, in a cell that is none of A's -/
def ES (lw sw : Cond) (A : Nat → Prop) (U : State) (H : Heap) : Prop := ∃ (a : Nat) (cell : Cell), ¬ A a ∧ H[a]? = some cell ∧ ∀ V : State, U.vm.Alike V.vm → V.heap[a]? = some cell → lw.before #[] V = true ∧ sw.before #[] V = true
theorem ES.moved {lw sw : Cond} {A : Nat → Prop} {s U : State} {H : Heap} (hW : s.vm.Alike U.vm) (h : ES lw sw A s H) : ES lw sw A U H := by
  obtain ⟨a, cell, g1, g2, g3⟩ := h
  exact ⟨a, cell, g1, g2, fun V hV hc => g3 V (hW.trans hV) hc⟩
theorem ES.kept {lw sw : Cond} {A : Nat → Prop} {U : State} {H H1 : Heap} (hq : ∀ a : Nat, a < H.size → ¬ A a → H1[a]? = H[a]?) (h : ES lw sw A U H) : ES lw sw A U H1 := by
  obtain ⟨a, cell, g1, g2, g3⟩ := h
  exact ⟨a, cell, g1, (hq a (Array.getElem?_eq_some_iff.mp g2).1 g1).trans g2, g3⟩
theorem ES.narrow {lw sw : Cond} {A B : Nat → Prop} {U : State} {H : Heap} (hAB : ∀ q, B q → A q) (h : ES lw sw A U H) : ES lw sw B U H := by
  obtain ⟨a, cell, g1, g2, g3⟩ := h
  exact ⟨a, cell, fun hb => g1 (hAB a hb), g2, g3⟩
theorem ES.here {lw sw : Cond} {A : Nat → Prop} {U : State} (h : ES lw sw A U U.heap) : lw.before #[] U = true ∧ sw.before #[] U = true := by
  obtain ⟨a, cell, g1, g2, g3⟩ := h
  exact g3 U (Vm.Alike.refl _) g2
def EN (A : Nat → Prop) (U : State) (H : Heap) : Prop := EM U ∧ ES es_1 es_3 A U H ∧ ES es_2 es_4 A U H
theorem EN.moved {A : Nat → Prop} {s U : State} {H : Heap} (hW : s.WarmedH U.vm) (h : EN A s H) : EN A U H := ⟨EM.moved hW h.1, h.2.1.moved hW.alike, h.2.2.moved hW.alike⟩
theorem EN.same {A : Nat → Prop} {u U : State} {H : Heap} (hv : u.vm = U.vm) (h : EN A u H) : EN A U H := ⟨EM.same hv h.1, h.2.1.moved (by rw [hv]; exact Vm.Alike.refl _), h.2.2.moved (by rw [hv]; exact Vm.Alike.refl _)⟩
theorem EN.kept {A : Nat → Prop} {U : State} {H H1 : Heap} (hq : ∀ a : Nat, a < H.size → ¬ A a → H1[a]? = H[a]?) (h : EN A U H) : EN A U H1 := ⟨h.1, h.2.1.kept hq, h.2.2.kept hq⟩
theorem EN.narrow {A B : Nat → Prop} {U : State} {H : Heap} (hAB : ∀ q, B q → A q) (h : EN A U H) : EN B U H := ⟨h.1, h.2.1.narrow hAB, h.2.2.narrow hAB⟩
theorem EN.stat {A : Nat → Prop} {U : State} (h : EN A U U.heap) : es_1.before #[] U = true ∧ es_2.before #[] U = true ∧ es_3.before #[] U = true ∧ es_4.before #[] U = true := ⟨h.2.1.here.1, h.2.2.here.1, h.2.1.here.2, h.2.2.here.2⟩
/-- a method's start: heap size, world, tables, what is outside -/
def zP (D : va_G) (cl : List vw_C) (tys : List (ClassId × FieldType)) (ws : va_W) (sz : Nat) (U : State) : Prop := U.heap.size = sz ∧ va_P D cl ws U.heap ∧ va_K D cl tys U ∧ va_D (fun _ => True) ws ∧ EN (va_A ws sz) U U.heap
/-- a method's end -/
def zB (D : va_G) (cl : List vw_C) (tys : List (ClassId × FieldType)) (A : Nat → Prop) (ws : va_W) (t : State) : Prop := va_P D cl ws t.heap ∧ va_K D cl tys t ∧ va_D A ws
theorem zP_blind {D : va_G} {cl : List vw_C} {tys : List (ClassId × FieldType)} {ws : va_W} {sz : Nat} {av : List Value} : FrameBlind (va_Pc av (zP D cl tys ws sz)) := fun a U g mk q => by
  obtain ⟨q0, q1, qP, qK, qD, qE⟩ := q
  exact ⟨q0, q1, qP, va_K.moved (u := U) (U := U.calling g mk a) (Vm.Alike.refl U.vm) qK, qD, EN.same (u := U) (U := U.calling g mk a) rfl qE⟩
theorem zP_pre {D : va_G} {cl : List vw_C} {tys : List (ClassId × FieldType)} {w wc : va_W} {H : Heap} {s : State} {A0 : Nat → Prop} {av : List Value} {locs : List Loc} (hK : va_K D cl tys s) (hE : EN A0 s s.heap) (hP : va_P D cl wc H) (hD : va_D A0 wc) (hS : va_S A0 s.heap H locs) (hF : ∀ q, va_A wc H.size q → A0 q) : ∀ U : State, U.heap = H → s.WarmedH U.vm → va_Pc av (zP D cl tys wc H.size) av.toArray U :=
  fun U hU hW => ⟨rfl, by rw [hU], by rw [hU]; exact hP, va_K.moved hW.alike hK, hD.weaken (fun _ _ _ _ => trivial), by rw [hU]; exact EN.narrow hF (EN.moved hW (EN.kept hS.2.1 hE))⟩
theorem z_fm {α β : Type} {g : α → Option β} {is : List α} {w : List β} (h : is.map g = w.map some) : is.filterMap g = w := by
  have h1 : (is.map g).filterMap id = (w.map some).filterMap id := by rw [h]
  rw [List.filterMap_map, List.filterMap_map] at h1
  have h2 : w.filterMap (id ∘ some) = w := by
    have : (id ∘ some : β → Option β) = some := rfl
    rw [this, List.filterMap_some]
  rw [h2] at h1
  exact h1
theorem zPs {D : va_G} {cl : List vw_C} {ws ws' : va_W} {H : Heap} (h : va_P D cl ws H) (is : List Nat) (hs : is.map (fun i => ws[i]?) = ws'.map some) : va_P D cl ws' H := h.sub is (z_fm hs)
def oc {α β : Type} (r : Option α) (n : β) (k : α → β) : β := match r with
  | none => n
  | some a => k a
theorem oc_n {α β : Type} {r : Option α} {n : β} {k : α → β} (h : r = none) : oc r n k = n := by rw [h]; rfl
theorem oc_s {α β : Type} {r : Option α} {n : β} {k : α → β} {a : α} (h : r = some a) : oc r n k = k a := by rw [h]; rfl
theorem ti_lo (a : Int32) : -2147483648 ≤ a.toInt := Int32.le_toInt a
theorem ti_hi (a : Int32) : a.toInt < 2147483648 := Int32.toInt_lt a
theorem zbm (x : Int) : x.bmod (2 ^ 32) = (x + 2147483648) % 4294967296 - 2147483648 := by
  show Int.bmod x 4294967296 = _
  unfold Int.bmod
  have : ((4294967296 : Nat) : Int) = 4294967296 := rfl
  simp only [this]
  split <;> omega
theorem zbm' (x : Int) : x.bmod 4294967296 = (x + 2147483648) % 4294967296 - 2147483648 := zbm x
theorem z_nb {r : Int32} (h : r = 0 ∨ r = 1) : narrow .boolean (.int r) = .int r := by rcases h with rfl | rfl <;> rfl
theorem z_cl {x : Int32} (h : 0 ≤ x.toInt) : (x.toNatClampNeg : Int) = x.toInt := by
  rw [Int32.toNatClampNeg]
  exact Int.toNat_of_nonneg h
/-- what the parts of the class keep -/
def CellsOk (N : Nat) (n : Int32) : Prop := 0 ≤ n.toInt ∧ n.toInt ≤ (N : Int) ∧ N < 1001
def CallsOk (n : Int32) : Prop := 0 ≤ n.toInt ∧ n.toInt ≤ 40
def TextOk (tb te tw tx : Int32) : Prop := 0 ≤ tb.toInt ∧ tb.toInt ≤ te.toInt ∧ te.toInt ≤ 500 ∧ 0 ≤ tw.toInt ∧ tw.toInt ≤ tx.toInt ∧ tx.toInt ≤ 500
def MemOk (he : Int32) : Prop := 1 ≤ he.toInt ∧ he.toInt ≤ 400
def OutOk (n : Int32) : Prop := 0 ≤ n.toInt ∧ n.toInt ≤ 800
section KSW
variable {p : Program} {l : Launch} {e : Env} {R : Room} {s : State} {m : MethodId} {args : Array Value} {below : List Frame} {meth : Method} {c : Code} {H : Heap} {locs : List Loc} {cells slots : Nat} {Q : State → Prop} {cc : ByteArray} {pc : Nat} {ls : Array Slot} {rest : List Value}
/-- a table's default: none of the keys that go elsewhere -/
theorem lv_tableD (hexec : p.tables.exec = Jvm.exec) (hb : c.code = cc) {dflt lo hi : Int} {offs : Array Int} {len : Nat} {x : Int32} {tgt : Nat} (keys : List Int) (hdg : decode cc pc = .ok (.tableswitch dflt lo hi offs, len)) (hz : offs.size = (hi - lo + 1).toNat) (hk : ∀ n, n < offs.size → offs[n]? = some dflt ∨ (lo + (n : Int)) ∈ keys) (hn : ∀ k ∈ keys, ¬ x.toInt = k) (ht : (pc : Int) + dflt = (tgt : Int))
    (k : W p l e R s m args below meth c H locs cells slots Q (F0 m tgt ls rest)) : W p l e R s m args below meth c H locs cells slots Q (F0 m pc ls (.int x :: rest)) := by
  by_cases h1 : x.toInt < lo
  · exact lv_tableOut hexec hb hdg (Or.inl h1) ht k
  · by_cases h2 : hi < x.toInt
    · exact lv_tableOut hexec hb hdg (Or.inr h2) ht k
    · have hlt : (x.toInt - lo).toNat < offs.size := by omega
      rcases hk _ hlt with h | h
      · exact lv_tableIn hexec hb hdg h1 h2 h ht k
      · exact absurd (by omega : x.toInt = lo + ((x.toInt - lo).toNat : Int)) (hn _ h)
end KSW
theorem co_nI {N : Nat} {n : Int32} (h : CellsOk N n) : (nI N).toInt = (N : Int) := nI_toInt (by unfold CellsOk at h; omega)
theorem z_tn (x : Int32) : x.toNatClampNeg = x.toInt.toNat := rfl
section KNEW
variable {p : Program} {l : Launch} {e : Env} {R : Room} {s : State} {m : MethodId} {args : Array Value} {below : List Frame} {meth : Method} {c : Code} {H : Heap} {locs : List Loc} {cells slots : Nat} {Q : State → Prop} {cc : ByteArray} {pc : Nat} {ls : Array Slot} {rest : List Value}
variable {D : va_G} {cl : List vw_C} {tys : List (ClassId × FieldType)} {ws : va_W} {A : Nat → Prop} {H0 : Heap}
theorem z_newa (hexec : p.tables.exec = Jvm.exec) (hb : c.code = cc) {atype : ArrayType} (harr : (Cond.arrayClass (newarray.typeOf atype)).before args s = true) {ty : FieldType} (hty : newarray.typeOf atype = ty) (hK : va_K D cl tys s) (hP : va_P D cl ws H) (hD : va_D A ws) (hS : va_S A H0 H locs) (hA : ∀ q, H0.size ≤ q → A q)
    (t0 : Nat) {cT : ClassId} (ht : tys[t0]? = some (cT, ty)) (hne : ∀ C, ty ≠ .object C) {n : Int32} {N' : Nat} {a0 : vp_A} (ha : ∀ cA : ClassId, vp_cell cA a0 = arrV cA N' (fun _ => defaultValue ty)) (hn : ¬ n < 0) (hN : n.toNatClampNeg = N') (hbytes : N' * componentBytes ty ≤ 536870912) (hcells : cells + 1 ≤ R.cells) (hslots : slots + N' ≤ R.slots) (hdg : decode cc pc = .ok (.newarray atype, 2))
    (kk : ∀ (q : Nat) (H1 : Heap), va_P D cl (ws ++ [(q, .inl (cT, a0))]) H1 → va_D A (ws ++ [(q, .inl (cT, a0))]) → va_S A H0 H1 locs →
      W p l e R s m args below meth c H1 locs (cells + 1) (slots + N') Q (F0 m (pc + 2) ls (.ref q :: rest))) : W p l e R s m args below meth c H locs cells slots Q (F0 m pc ls (.int n :: rest)) := by
  refine va_newa hexec hb harr hty hK hP hD hS hA ha hn hN hbytes hcells hslots hdg (fun q cA H1 hK1 hP1 hD1 hS1 => ?_)
  have h1 : va_RA s cA ty := (hK1.2 tys.length (cA, ty) (by simp)).2
  have h2 : va_RA s cT ty := (hK.2 t0 _ ht).2
  have he : cA = cT := by
    cases ty with
    | object C => exact absurd rfl (hne C)
    | _ => exact Option.some.inj (h1.symm.trans h2)
  subst he
  exact kk q H1 hP1 hD1 hS1
theorem z_newq (hexec : p.tables.exec = Jvm.exec) (hb : c.code = cc) {own C : String} {index : Nat} (hown : s.vm.findClass own = some m.cls) (hclink : (Cond.classLink own index C).before args s = true) (hover : va_AO C s) (hK : va_K D cl tys s) (hP : va_P D cl ws H) (hD : va_D A ws) (hS : va_S A H0 H locs) (hA : ∀ q, H0.size ≤ q → A q)
    (t0 : Nat) {cT : ClassId} (ht : tys[t0]? = some (cT, .object C)) {n : Int32} {N' : Nat} (hn : ¬ n < 0) (hN : n.toNatClampNeg = N') (hbytes : N' * 4 ≤ 536870912) (hcells : cells + 1 ≤ R.cells) (hslots : slots + N' ≤ R.slots) (hdg : decode cc pc = .ok (.anewarray index, 3))
    (kk : ∀ (q : Nat) (H1 : Heap), va_P D cl (ws ++ [(q, .inl (cT, N', .inr (.inr (.inr (.inr (fun _ => none))))))]) H1 → va_D A (ws ++ [(q, .inl (cT, N', .inr (.inr (.inr (.inr (fun _ => none))))))]) → va_S A H0 H1 locs →
      W p l e R s m args below meth c H1 locs (cells + 1) (slots + N') Q (F0 m (pc + 3) ls (.ref q :: rest))) : W p l e R s m args below meth c H locs cells slots Q (F0 m pc ls (.int n :: rest)) := by
  refine va_newq hexec hb hown hclink hover hK hP hD hS hA hn hN hbytes hcells hslots hdg (fun q cA H1 hK1 hP1 hD1 hS1 => ?_)
  have h1 : va_RA s cA (.object C) := (hK1.2 tys.length (cA, .object C) (by simp)).2
  have h2 : va_RA s cT (.object C) := (hK.2 t0 _ ht).2
  obtain ⟨_, _, _, _, _, g1⟩ := h1
  obtain ⟨_, _, _, _, _, g2⟩ := h2
  have he : cA = cT := Option.some.inj (g1.symm.trans g2)
  subst he
  exact kk q H1 hP1 hD1 hS1
end KNEW
theorem z_l0 {x : Int32} (h : 2 ≤ x.toInt) : ¬ x.toInt64 = 0 := fun e => by
  have h1 := congrArg Int64.toInt e
  rw [Int32.toInt_toInt64, Int64.toInt_zero] at h1
  omega
section KN
variable {p : Program} {l : Launch} {e : Env} {R : Room} {s : State} {m : MethodId} {args : Array Value} {below : List Frame} {meth : Method} {c : Code} {H : Heap} {locs : List Loc} {cells slots : Nat} {Q : State → Prop}
variable {D : va_G} {cl : List vw_C} {tys : List (ClassId × FieldType)} {pc : Nat} {ls : Array Slot} {rest st0 : List Value} {a : Array Value} {A0 : Nat → Prop} {H0 : Heap} {mc ms : Nat}
theorem kN_si {S : Type} {F : Int32 × S} {K : Int32 → S → Prop} {wc wr w : va_W} {w1 : S → va_W} (w' : S → va_W) (hr : va_Run p l e R s m args below meth c H locs cells slots mc ms (F0 m pc ls st0) rest (va_Qi (fun r u => (r, u) = F ∧ K r u) (fun u => zB D cl tys (va_A wc H.size) (w1 u)) (va_A wc H.size) a) (va_A wc H.size)) (hP : va_P D cl w H) (hD : va_D A0 w) (hS : va_S A0 H0 H locs) (hA : ∀ q, H0.size ≤ q → A0 q) (isC isR : List Nat) (hC : isC.map (fun i => w[i]?) = wc.map some) (hR : isR.map (fun i => w[i]?) = wr.map some) (hn : va_nd isR = true) (hdis : ∀ i ∈ isR, i ∉ isC) (pm : List Nat) (hpn : va_nd pm = true) (hpm : ∀ u, pm.map (fun i => (wr ++ w1 u)[i]?) = (w' u).map some)
    (kk : ∀ (q : Int32 × S) (H1 : Heap) (locs1 : List Loc), F = q → K q.1 q.2 → va_P D cl (w' q.2) H1 → va_D A0 (w' q.2) → va_S A0 H0 H1 locs1 → W p l e R s m args below meth c H1 locs1 (cells + mc) (slots + ms) Q (F0 m (pc + 3) ls (.int q.1 :: rest))) : W p l e R s m args below meth c H locs cells slots Q (F0 m pc ls st0) := by
  have hFc := va_free (wc := wc) hD hS hA isC hC
  refine va_calli hr hS (fun q _ h => hFc q h) hFc (fun r u t H1 locs1 ht hvm hw hB hz hk hS1 => ?_)
  obtain ⟨hP1, hK1, hD1⟩ := hB
  rw [ht] at hP1
  obtain ⟨hPj, hDj⟩ := va_join hP hD isC isR hC hR hn hdis hk hFc hP1 hD1
  exact kk (r, u) H1 locs1 hw.1.symm hw.2 (zPs hPj pm (hpm u)) (hDj.sub pm hpn (hpm u)) hS1
theorem kN_pi {F : Int32} {K : Int32 → Prop} {wc wr w : va_W} (hr : va_Run p l e R s m args below meth c H locs cells slots mc ms (F0 m pc ls st0) rest (va_Qi (fun r (_ : Unit) => r = F ∧ K r) (fun _ => zB D cl tys (va_A wc H.size) wc) (va_A wc H.size) a) (va_A wc H.size)) (hP : va_P D cl w H) (hD : va_D A0 w) (hS : va_S A0 H0 H locs) (hA : ∀ q, H0.size ≤ q → A0 q) (isC isR : List Nat) (hC : isC.map (fun i => w[i]?) = wc.map some) (hR : isR.map (fun i => w[i]?) = wr.map some) (hn : va_nd isR = true) (hdis : ∀ i ∈ isR, i ∉ isC) (pm : List Nat) (hpn : va_nd pm = true) (hpm : pm.map (fun i => (wr ++ wc)[i]?) = w.map some)
    (kk : ∀ (q : Int32) (H1 : Heap) (locs1 : List Loc), F = q → K q → va_P D cl w H1 → va_D A0 w → va_S A0 H0 H1 locs1 → W p l e R s m args below meth c H1 locs1 (cells + mc) (slots + ms) Q (F0 m (pc + 3) ls (.int q :: rest))) : W p l e R s m args below meth c H locs cells slots Q (F0 m pc ls st0) := by
  have hFc := va_free (wc := wc) hD hS hA isC hC
  refine va_calli hr hS (fun q _ h => hFc q h) hFc (fun r u t H1 locs1 ht hvm hw hB hz hk hS1 => ?_)
  obtain ⟨hP1, hK1, hD1⟩ := hB
  rw [ht] at hP1
  obtain ⟨hPj, hDj⟩ := va_join hP hD isC isR hC hR hn hdis hk hFc hP1 hD1
  exact kk r H1 locs1 hw.1.symm hw.2 (zPs hPj pm hpm) (hDj.sub pm hpn hpm) hS1
theorem kN_sl {S : Type} {F : Int64 × S} {K : Int64 → S → Prop} {wc wr w : va_W} {w1 : S → va_W} (w' : S → va_W) (hr : va_Run p l e R s m args below meth c H locs cells slots mc ms (F0 m pc ls st0) rest (va_Ql (fun r u => (r, u) = F ∧ K r u) (fun u => zB D cl tys (va_A wc H.size) (w1 u)) (va_A wc H.size) a) (va_A wc H.size)) (hP : va_P D cl w H) (hD : va_D A0 w) (hS : va_S A0 H0 H locs) (hA : ∀ q, H0.size ≤ q → A0 q) (isC isR : List Nat) (hC : isC.map (fun i => w[i]?) = wc.map some) (hR : isR.map (fun i => w[i]?) = wr.map some) (hn : va_nd isR = true) (hdis : ∀ i ∈ isR, i ∉ isC) (pm : List Nat) (hpn : va_nd pm = true) (hpm : ∀ u, pm.map (fun i => (wr ++ w1 u)[i]?) = (w' u).map some)
    (kk : ∀ (q : Int64 × S) (H1 : Heap) (locs1 : List Loc), F = q → K q.1 q.2 → va_P D cl (w' q.2) H1 → va_D A0 (w' q.2) → va_S A0 H0 H1 locs1 → W p l e R s m args below meth c H1 locs1 (cells + mc) (slots + ms) Q (F0 m (pc + 3) ls (.long q.1 :: rest))) : W p l e R s m args below meth c H locs cells slots Q (F0 m pc ls st0) := by
  have hFc := va_free (wc := wc) hD hS hA isC hC
  refine va_calll hr hS (fun q _ h => hFc q h) hFc (fun r u t H1 locs1 ht hvm hw hB hz hk hS1 => ?_)
  obtain ⟨hP1, hK1, hD1⟩ := hB
  rw [ht] at hP1
  obtain ⟨hPj, hDj⟩ := va_join hP hD isC isR hC hR hn hdis hk hFc hP1 hD1
  exact kk (r, u) H1 locs1 hw.1.symm hw.2 (zPs hPj pm (hpm u)) (hDj.sub pm hpn (hpm u)) hS1
theorem kN_pl {F : Int64} {K : Int64 → Prop} {wc wr w : va_W} (hr : va_Run p l e R s m args below meth c H locs cells slots mc ms (F0 m pc ls st0) rest (va_Ql (fun r (_ : Unit) => r = F ∧ K r) (fun _ => zB D cl tys (va_A wc H.size) wc) (va_A wc H.size) a) (va_A wc H.size)) (hP : va_P D cl w H) (hD : va_D A0 w) (hS : va_S A0 H0 H locs) (hA : ∀ q, H0.size ≤ q → A0 q) (isC isR : List Nat) (hC : isC.map (fun i => w[i]?) = wc.map some) (hR : isR.map (fun i => w[i]?) = wr.map some) (hn : va_nd isR = true) (hdis : ∀ i ∈ isR, i ∉ isC) (pm : List Nat) (hpn : va_nd pm = true) (hpm : pm.map (fun i => (wr ++ wc)[i]?) = w.map some)
    (kk : ∀ (q : Int64) (H1 : Heap) (locs1 : List Loc), F = q → K q → va_P D cl w H1 → va_D A0 w → va_S A0 H0 H1 locs1 → W p l e R s m args below meth c H1 locs1 (cells + mc) (slots + ms) Q (F0 m (pc + 3) ls (.long q :: rest))) : W p l e R s m args below meth c H locs cells slots Q (F0 m pc ls st0) := by
  have hFc := va_free (wc := wc) hD hS hA isC hC
  refine va_calll hr hS (fun q _ h => hFc q h) hFc (fun r u t H1 locs1 ht hvm hw hB hz hk hS1 => ?_)
  obtain ⟨hP1, hK1, hD1⟩ := hB
  rw [ht] at hP1
  obtain ⟨hPj, hDj⟩ := va_join hP hD isC isR hC hR hn hdis hk hFc hP1 hD1
  exact kk r H1 locs1 hw.1.symm hw.2 (zPs hPj pm hpm) (hDj.sub pm hpn hpm) hS1
theorem kN_sq {S : Type} {F : Option Nat × S} {K : Option Nat → S → Prop} {wc wr w : va_W} {w1 : S → va_W} (w' : S → va_W) (hr : va_Run p l e R s m args below meth c H locs cells slots mc ms (F0 m pc ls st0) rest (va_Qq (fun r u => (r, u) = F ∧ K r u) (fun u => zB D cl tys (va_A wc H.size) (w1 u)) (va_A wc H.size) a) (va_A wc H.size)) (hP : va_P D cl w H) (hD : va_D A0 w) (hS : va_S A0 H0 H locs) (hA : ∀ q, H0.size ≤ q → A0 q) (isC isR : List Nat) (hC : isC.map (fun i => w[i]?) = wc.map some) (hR : isR.map (fun i => w[i]?) = wr.map some) (hn : va_nd isR = true) (hdis : ∀ i ∈ isR, i ∉ isC) (pm : List Nat) (hpn : va_nd pm = true) (hpm : ∀ u, pm.map (fun i => (wr ++ w1 u)[i]?) = (w' u).map some)
    (kk : ∀ (q : Option Nat × S) (H1 : Heap) (locs1 : List Loc), F = q → K q.1 q.2 → va_P D cl (w' q.2) H1 → va_D A0 (w' q.2) → va_S A0 H0 H1 locs1 → W p l e R s m args below meth c H1 locs1 (cells + mc) (slots + ms) Q (F0 m (pc + 3) ls (va_rf q.1 :: rest))) : W p l e R s m args below meth c H locs cells slots Q (F0 m pc ls st0) := by
  have hFc := va_free (wc := wc) hD hS hA isC hC
  refine va_callq hr hS (fun q _ h => hFc q h) hFc (fun r u t H1 locs1 ht hvm hw hB hz hk hS1 => ?_)
  obtain ⟨hP1, hK1, hD1⟩ := hB
  rw [ht] at hP1
  obtain ⟨hPj, hDj⟩ := va_join hP hD isC isR hC hR hn hdis hk hFc hP1 hD1
  exact kk (r, u) H1 locs1 hw.1.symm hw.2 (zPs hPj pm (hpm u)) (hDj.sub pm hpn (hpm u)) hS1
theorem kN_pq {F : Option Nat} {K : Option Nat → Prop} {wc wr w : va_W} (hr : va_Run p l e R s m args below meth c H locs cells slots mc ms (F0 m pc ls st0) rest (va_Qq (fun r (_ : Unit) => r = F ∧ K r) (fun _ => zB D cl tys (va_A wc H.size) wc) (va_A wc H.size) a) (va_A wc H.size)) (hP : va_P D cl w H) (hD : va_D A0 w) (hS : va_S A0 H0 H locs) (hA : ∀ q, H0.size ≤ q → A0 q) (isC isR : List Nat) (hC : isC.map (fun i => w[i]?) = wc.map some) (hR : isR.map (fun i => w[i]?) = wr.map some) (hn : va_nd isR = true) (hdis : ∀ i ∈ isR, i ∉ isC) (pm : List Nat) (hpn : va_nd pm = true) (hpm : pm.map (fun i => (wr ++ wc)[i]?) = w.map some)
    (kk : ∀ (q : Option Nat) (H1 : Heap) (locs1 : List Loc), F = q → K q → va_P D cl w H1 → va_D A0 w → va_S A0 H0 H1 locs1 → W p l e R s m args below meth c H1 locs1 (cells + mc) (slots + ms) Q (F0 m (pc + 3) ls (va_rf q :: rest))) : W p l e R s m args below meth c H locs cells slots Q (F0 m pc ls st0) := by
  have hFc := va_free (wc := wc) hD hS hA isC hC
  refine va_callq hr hS (fun q _ h => hFc q h) hFc (fun r u t H1 locs1 ht hvm hw hB hz hk hS1 => ?_)
  obtain ⟨hP1, hK1, hD1⟩ := hB
  rw [ht] at hP1
  obtain ⟨hPj, hDj⟩ := va_join hP hD isC isR hC hR hn hdis hk hFc hP1 hD1
  exact kk r H1 locs1 hw.1.symm hw.2 (zPs hPj pm hpm) (hDj.sub pm hpn hpm) hS1
theorem kN_sv {S : Type} {F : S} {K : S → Prop} {wc wr w : va_W} {w1 : S → va_W} (w' : S → va_W) (hr : va_Run p l e R s m args below meth c H locs cells slots mc ms (F0 m pc ls st0) rest (va_Qv (fun u => u = F ∧ K u) (fun u => zB D cl tys (va_A wc H.size) (w1 u)) (va_A wc H.size) a) (va_A wc H.size)) (hP : va_P D cl w H) (hD : va_D A0 w) (hS : va_S A0 H0 H locs) (hA : ∀ q, H0.size ≤ q → A0 q) (isC isR : List Nat) (hC : isC.map (fun i => w[i]?) = wc.map some) (hR : isR.map (fun i => w[i]?) = wr.map some) (hn : va_nd isR = true) (hdis : ∀ i ∈ isR, i ∉ isC) (pm : List Nat) (hpn : va_nd pm = true) (hpm : ∀ u, pm.map (fun i => (wr ++ w1 u)[i]?) = (w' u).map some)
    (kk : ∀ (q : S) (H1 : Heap) (locs1 : List Loc), F = q → K q → va_P D cl (w' q) H1 → va_D A0 (w' q) → va_S A0 H0 H1 locs1 → W p l e R s m args below meth c H1 locs1 (cells + mc) (slots + ms) Q (F0 m (pc + 3) ls (rest))) : W p l e R s m args below meth c H locs cells slots Q (F0 m pc ls st0) := by
  have hFc := va_free (wc := wc) hD hS hA isC hC
  refine va_callv hr hS (fun q _ h => hFc q h) hFc (fun u t H1 locs1 ht hvm hw hB hz hk hS1 => ?_)
  obtain ⟨hP1, hK1, hD1⟩ := hB
  rw [ht] at hP1
  obtain ⟨hPj, hDj⟩ := va_join hP hD isC isR hC hR hn hdis hk hFc hP1 hD1
  exact kk u H1 locs1 hw.1.symm hw.2 (zPs hPj pm (hpm u)) (hDj.sub pm hpn (hpm u)) hS1
theorem kN_cv {S : Type} {K : S → Prop} {wc wr w : va_W} {w1 : S → va_W} (w' : S → va_W) (hr : va_Run p l e R s m args below meth c H locs cells slots mc ms (F0 m pc ls st0) rest (va_Qv (fun u => K u) (fun u => zB D cl tys (va_A wc H.size) (w1 u)) (va_A wc H.size) a) (va_A wc H.size)) (hP : va_P D cl w H) (hD : va_D A0 w) (hS : va_S A0 H0 H locs) (hA : ∀ q, H0.size ≤ q → A0 q) (isC isR : List Nat) (hC : isC.map (fun i => w[i]?) = wc.map some) (hR : isR.map (fun i => w[i]?) = wr.map some) (hn : va_nd isR = true) (hdis : ∀ i ∈ isR, i ∉ isC) (pm : List Nat) (hpn : va_nd pm = true) (hpm : ∀ u, pm.map (fun i => (wr ++ w1 u)[i]?) = (w' u).map some)
    (kk : ∀ (q : S) (H1 : Heap) (locs1 : List Loc), K q → va_P D cl (w' q) H1 → va_D A0 (w' q) → va_S A0 H0 H1 locs1 → W p l e R s m args below meth c H1 locs1 (cells + mc) (slots + ms) Q (F0 m (pc + 3) ls (rest))) : W p l e R s m args below meth c H locs cells slots Q (F0 m pc ls st0) := by
  have hFc := va_free (wc := wc) hD hS hA isC hC
  refine va_callv hr hS (fun q _ h => hFc q h) hFc (fun u t H1 locs1 ht hvm hw hB hz hk hS1 => ?_)
  obtain ⟨hP1, hK1, hD1⟩ := hB
  rw [ht] at hP1
  obtain ⟨hPj, hDj⟩ := va_join hP hD isC isR hC hR hn hdis hk hFc hP1 hD1
  exact kk u H1 locs1 hw (zPs hPj pm (hpm u)) (hDj.sub pm hpn (hpm u)) hS1
theorem kN_ki {F : Int32} {K : Int32 → Prop} {wc wr w w1 : va_W} (w' : va_W) (hr : va_Run p l e R s m args below meth c H locs cells slots mc ms (F0 m pc ls st0) rest (va_Qi (fun r (_ : Unit) => r = F ∧ K r) (fun _ => zB D cl tys (va_A wc H.size) w1) (va_A wc H.size) a) (va_A wc H.size)) (hP : va_P D cl w H) (hD : va_D A0 w) (hS : va_S A0 H0 H locs) (hA : ∀ q, H0.size ≤ q → A0 q) (isC isR : List Nat) (hC : isC.map (fun i => w[i]?) = wc.map some) (hR : isR.map (fun i => w[i]?) = wr.map some) (hn : va_nd isR = true) (hdis : ∀ i ∈ isR, i ∉ isC) (pm : List Nat) (hpn : va_nd pm = true) (hpm : pm.map (fun i => (wr ++ w1)[i]?) = w'.map some)
    (kk : ∀ (q : Int32) (H1 : Heap) (locs1 : List Loc), F = q → K q → va_P D cl w' H1 → va_D A0 w' → va_S A0 H0 H1 locs1 → W p l e R s m args below meth c H1 locs1 (cells + mc) (slots + ms) Q (F0 m (pc + 3) ls (.int q :: rest))) : W p l e R s m args below meth c H locs cells slots Q (F0 m pc ls st0) := by
  have hFc := va_free (wc := wc) hD hS hA isC hC
  refine va_calli hr hS (fun q _ h => hFc q h) hFc (fun r u t H1 locs1 ht hvm hw hB hz hk hS1 => ?_)
  obtain ⟨hP1, hK1, hD1⟩ := hB
  rw [ht] at hP1
  obtain ⟨hPj, hDj⟩ := va_join hP hD isC isR hC hR hn hdis hk hFc hP1 hD1
  exact kk r H1 locs1 hw.1.symm hw.2 (zPs hPj pm hpm) (hDj.sub pm hpn hpm) hS1
end KN
section KR
variable {p : Program} {l : Launch} {e : Env} {R : Room} {s : State} {m : MethodId} {args : Array Value} {below : List Frame} {meth : Method} {c : Code} {H : Heap} {locs : List Loc} {cells slots : Nat} {Q : State → Prop}
variable {D : va_G} {cl : List vw_C} {tys : List (ClassId × FieldType)} {pc : Nat} {ls : Array Slot} {rest st0 : List Value} {a : Array Value} {A0 : Nat → Prop} {H0 : Heap} {mc ms : Nat}
variable {y : MethodName} {bytes cc : ByteArray} {maxL nL n index : Nat} {ret : Option FieldType} {ws Ts : List Cond} {rm : Room} {Qc : Array Value → State → Outcome → State → Prop} {free : Addr → Prop} {own C host : String} {b : Addr} {As : List Value} {w wc : va_W} {ci N : Nat} {fs : List Value} {T : u_T}
theorem zV (S : CallFix p m c cc nL s args Ts own) (hM : Met l y ws rm (va_Pc (.ref b :: As) (zP D cl tys wc H.size)) Qc mc ms free) (cw : CallW R s args own C index y bytes maxL ret ws rm mc ms n) (hK : va_K D cl tys s) (hE : EN A0 s s.heap) (hP : va_P D cl w H) (hD : va_D A0 w) (hS : va_S A0 s.heap H locs) (hA : ∀ q, s.heap.size ≤ q → A0 q) (isC : List Nat) (hnc : va_nd isC = true) (hC : isC.map (fun i => w[i]?) = wc.map some) (k0 : Nat) (hq : wc[k0]? = some (b, .inr (ci, fs))) (hc : cl[ci]? = some (C, T, N)) (hn : As.length = n) (hsize : ls.size = nL) (hst : st0 = As.reverse ++ .ref b :: rest) (hW : (rest.map fun v => v.category).sum ≤ 8) (hdg : decode cc pc = .ok (.invokevirtual index, 3)) (hf : cells + mc ≤ R.cells ∧ slots + ms ≤ R.slots) : va_Run p l e R s m args below meth c H locs cells slots mc ms (F0 m pc ls st0) rest (Qc (Value.ref b :: As).toArray) free :=
  va_runV S hM cw ⟨zP_blind, va_recv hK (zPs hP isC hC) hc hq, (zP_pre (w := w) hK hE (zPs hP isC hC) (hD.sub isC hnc hC) hS (va_free hD hS hA isC hC))⟩ rfl hn hsize hst (lv_room hW) hdg hf
theorem zS (S : CallFix p m c cc nL s args Ts own) (hM : Met l y ws rm (va_Pc As (zP D cl tys wc H.size)) Qc mc ms free) (cw : CallB R s args own index y bytes maxL ret ws rm mc ms n ∧ (Cond.static y).before args s = true) (hK : va_K D cl tys s) (hE : EN A0 s s.heap) (hP : va_P D cl w H) (hD : va_D A0 w) (hS : va_S A0 s.heap H locs) (hA : ∀ q, s.heap.size ≤ q → A0 q) (isC : List Nat) (hnc : va_nd isC = true) (hC : isC.map (fun i => w[i]?) = wc.map some) (hn : As.length = n) (hsize : ls.size = nL) (hst : st0 = As.reverse ++ rest) (hW : (rest.map fun v => v.category).sum ≤ 8) (hdg : decode cc pc = .ok (.invokestatic index, 3)) (hf : cells + mc ≤ R.cells ∧ slots + ms ≤ R.slots) : va_Run p l e R s m args below meth c H locs cells slots mc ms (F0 m pc ls st0) rest (Qc As.toArray) free :=
  va_runS S hM cw ⟨zP_blind, (zP_pre (w := w) hK hE (zPs hP isC hC) (hD.sub isC hnc hC) hS (va_free hD hS hA isC hC))⟩ rfl hn hsize hst (lv_room hW) hdg hf
theorem zI (S : CallFix p m c cc nL s args Ts own) (hM : Met l y ws rm (va_Pc (.ref b :: As) (zP D cl tys wc H.size)) Qc mc ms free) (cw : CallB R s args own index y bytes maxL none ws rm mc ms n ∧ y.name = "<init>" ∧ (Cond.instanceMethod y).before args s = true) (hK : va_K D cl tys s) (hE : EN A0 s s.heap) (hP : va_P D cl w H) (hD : va_D A0 w) (hS : va_S A0 s.heap H locs) (hA : ∀ q, s.heap.size ≤ q → A0 q) (isC : List Nat) (hnc : va_nd isC = true) (hC : isC.map (fun i => w[i]?) = wc.map some) (hn : As.length = n) (hsize : ls.size = nL) (hst : st0 = As.reverse ++ .ref b :: rest) (hW : (rest.map fun v => v.category).sum ≤ 8) (hdg : decode cc pc = .ok (.invokespecial index, 3)) (hf : cells + mc ≤ R.cells ∧ slots + ms ≤ R.slots) : va_Run p l e R s m args below meth c H locs cells slots mc ms (F0 m pc ls st0) rest (Qc (Value.ref b :: As).toArray) free :=
  va_runI S hM cw ⟨zP_blind, (zP_pre (w := w) hK hE (zPs hP isC hC) (hD.sub isC hnc hC) hS (va_free hD hS hA isC hC))⟩ rfl hn hsize hst (lv_room hW) hdg hf
theorem zIN (S : CallFix p m c cc nL s args Ts own) (hM : Met l y ws rm (va_Pc (.ref b :: As) (zP D cl tys wc H.size)) Qc mc ms free) (cw : va_CN R s args own index y host bytes maxL none ws rm mc ms n ∧ y.name = "<init>" ∧ (Cond.instanceMethod y).before args s = true) (hK : va_K D cl tys s) (hE : EN A0 s s.heap) (hP : va_P D cl w H) (hD : va_D A0 w) (hS : va_S A0 s.heap H locs) (hA : ∀ q, s.heap.size ≤ q → A0 q) (isC : List Nat) (hnc : va_nd isC = true) (hC : isC.map (fun i => w[i]?) = wc.map some) (hn : As.length = n) (hsize : ls.size = nL) (hst : st0 = As.reverse ++ .ref b :: rest) (hW : (rest.map fun v => v.category).sum ≤ 8) (hdg : decode cc pc = .ok (.invokespecial index, 3)) (hf : cells + mc ≤ R.cells ∧ slots + ms ≤ R.slots) : va_Run p l e R s m args below meth c H locs cells slots mc ms (F0 m pc ls st0) rest (Qc (Value.ref b :: As).toArray) free :=
  va_runIN S hM cw ⟨zP_blind, (zP_pre (w := w) hK hE (zPs hP isC hC) (hD.sub isC hnc hC) hS (va_free hD hS hA isC hC))⟩ rfl hn hsize hst (lv_room hW) hdg hf
end KR
