/-! own rows: what holds outside the worlds at the law's start; what the two sides answer at a first call -/
theorem es_mk {o n d : String} {A : Nat → Prop} {args : Array Value} {s : State} (hA : ∀ q, A q ↔ s.heap.size ≤ q) (hl : (Cond.laysStatic o n d).before args s = true) (hr : (Cond.isRef (.static o n d)).before args s = true) : ES (.laysStatic o n d) (.isRef (.static o n d)) A s s.heap := by
  obtain ⟨c, k, i, f, a, cell, h1, h2, h3, h4, h5, h6, h7, h8, h9⟩ := Cond.laysStatic_spec hl
  refine ⟨a, cell, fun h => absurd ((hA a).mp h) (Nat.not_le.mpr (Array.getElem?_eq_some_iff.mp h5).1), h5, fun V hV hc => ?_⟩
  obtain ⟨k', hk', he⟩ := State.fieldFound?_setVm hV h2
  have hk2 : V.fieldFound? o n d = some (c, k', i, f) := hk'
  have hs : k'.statics = some a := by rw [he]; exact h4
  have hf1 : V.vm.findClass o = some c := by rw [hV.findClass]; exact h1
  have ht : k'.staticTypes[f.slot]? = some f.type := by rw [he]; exact h9
  refine ⟨by simp [Cond.before, Cond.holds, Cond.value, hf1, hk2, hs, hc, h3, h6, h7, h8, ht], ?_⟩
  obtain ⟨⟨v, hv⟩, hu⟩ := Cond.staticRefV h2 h3 h4 h5 h6 hr
  have hev : (Term.static o n d).eval #[] V none [] V = some v := by
    simp [Term.eval, State.fieldNamed?, hk2, h3, hs, hc, h6]
    exact hu
  simp only [Cond.before, Cond.holds, Cond.value, hev]
  cases v with
  | null => rfl
  | ref x => rfl
  | _ => cases hv
theorem st_mk {k : Nat} {tx : String} {args : Array Value} {s : State} {cM : ClassId} (hc : s.vm.findClass "ColonMachine" = some cM) (h : (Cond.stringRef "ColonMachine" k tx).before args s = true) : ∃ q, vk_R "ColonMachine" k tx q s := by
  obtain ⟨_, _, _, a, -, -, -, -, -, h6⟩ := Cond.stringRef_spec hc h
  exact ⟨a, vk_R.of h h6⟩
theorem ar_mk {ty : FieldType} {args : Array Value} {s : State} (hne : ∀ C, ty ≠ .object C) (h : (Cond.arrayClass ty).before args s = true) : ∃ cA : ClassId, ArrOfT s cA ty ∧ va_RA s cA ty := by
  obtain ⟨cA, kA, comp, h1, h2, h3⟩ := Cond.arrayClass_spec h
  refine ⟨cA, fun N z => ⟨(fun k h => by cases h), kA, h2, comp, h3⟩, ?_⟩
  cases ty with
  | object C => exact absurd rfl (hne C)
  | _ => exact h1
theorem ao_mk {C : String} {args : Array Value} {s : State} (h : (Cond.arrayOver (.object C)).before args s = true) : ∃ cA : ClassId, ArrOfT s cA (.object C) ∧ va_RA s cA (.object C) := by
  obtain ⟨comp, cA, kA, h1, -, h3, h4, h5⟩ := Cond.arrayOver_spec h
  exact ⟨cA, fun N z => ⟨(fun k h => by cases h), kA, h3, comp, h4⟩, kA, comp, h3, h4, h1, h5⟩
theorem lq_blocks : F_Memory_blocks (fun _ => 0) = 0 := by decide +kernel
theorem lq_cells : F_Memory_cellsInBlocks (fun _ => 0) = 0 := by decide +kernel
theorem lq_hz : ((0 : Int64) <<< ((8 : Int32).toInt64 &&& 63)) ||| ((0 : Int32).toInt64) = 0 := by decide
theorem lq_ow (x : Int32) : ∀ (k : Nat) (v : Int32), F_Out_eightBytes_L18 0 (fun _ => 0) x k v 0 = 0 := by
  intro k
  induction k with
  | zero => intro v; rfl
  | succ k ih =>
    intro v
    rw [F_Out_eightBytes_L18_s]
    simp only [lq_hz, ih, ite_self]
theorem lq_mw (x : Int32) : ∀ (k : Nat) (v : Int32), (F_Mod_word_L11 0 (fun _ => 0) x k v 0).1 = 0 := by
  intro k
  induction k with
  | zero => intro v; rfl
  | succ k ih =>
    intro v
    rw [F_Mod_word_L11_s]
    simp only [lq_hz]
    repeat' split
    all_goals first | rfl | exact ih _
