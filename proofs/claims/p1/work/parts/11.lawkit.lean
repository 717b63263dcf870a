/-! At the law's entry: the classes' numbers, the array classes, what a throw reads. -/
theorem xl_arr {ty : FieldType} {args : Array Value} {s : State} (h : (Cond.arrayClass ty).before args s = true) (hra : ∀ c : ClassId, s.vm.findClass ("[" ++ ty.toString) = some c → va_RA s c ty) : ∃ cA : ClassId, ArrOfT s cA ty ∧ va_RA s cA ty := by
  obtain ⟨cA, kA, comp, h1, h2, h3⟩ := Cond.arrayClass_spec h
  exact ⟨cA, fun n z => ⟨fun k h => (by cases h), kA, h2, comp, h3⟩, hra _ h1⟩
theorem xl_K {args : Array Value} {s : State} (hg : ∀ w ∈ xw_G, w.before args s = true) (hq : xq_Ar s) : ∃ (dC : Nat → ClassId) (dI : Nat → Nat → Nat) (cI cB cJ cZ cQ : ClassId), va_K (dC, dI) xcl (xt cI cB cJ cZ cQ) s := by
  obtain ⟨c0, i0, hK0⟩ := u_known (C := rn_M) (T := fn_M) (N := 91) hg in_M (hg _ wn_8_61)
  obtain ⟨c1, i1, hK1⟩ := u_known (C := rn_C) (T := fn_C) (N := 11) hg in_C (hg _ wn_1_31)
  obtain ⟨c2, i2, hK2⟩ := u_known (C := rn_Tokens) (T := fn_Tokens) (N := 9) hg in_Tokens (hg _ wn_1_39)
  obtain ⟨c3, i3, hK3⟩ := u_known (C := rn_Scanner) (T := fn_Scanner) (N := 9) hg in_Scanner (hg _ wn_1_84)
  obtain ⟨c4, i4, hK4⟩ := u_known (C := rn_Checker) (T := fn_Checker) (N := 15) hg in_Checker (hg _ wn_1_121)
  obtain ⟨c5, i5, hK5⟩ := u_known (C := rn_Meaning) (T := fn_Meaning) (N := 17) hg in_Meaning (hg _ wn_1_179)
  obtain ⟨c6, i6, hK6⟩ := u_known (C := rn_Grammar) (T := fn_Grammar) (N := 15) hg in_Grammar (hg _ wn_1_177)
  obtain ⟨c7, i7, hK7⟩ := u_known (C := rn_Order) (T := fn_Order) (N := 10) hg in_Order (hg _ wn_2_47)
  obtain ⟨c8, i8, hK8⟩ := u_known (C := rn_Machine) (T := fn_Machine) (N := 5) hg in_Machine (hg _ wn_2_84)
  obtain ⟨c9, i9, hK9⟩ := u_known (C := rn_Circuit) (T := fn_Circuit) (N := 14) hg in_Circuit (hg _ wn_2_106)
  obtain ⟨c10, i10, hK10⟩ := u_known (C := rn_Design) (T := fn_Design) (N := 16) hg in_Design (hg _ wn_2_112)
  obtain ⟨c11, i11, hK11⟩ := u_known (C := rn_Parts) (T := fn_Parts) (N := 15) hg in_Parts (hg _ wn_2_118)
  obtain ⟨c12, i12, hK12⟩ := u_known (C := rn_Code) (T := fn_Code) (N := 5) hg in_Code (hg _ wn_2_204)
  obtain ⟨cI, aI, rI⟩ := xl_arr (ty := .int) (hg _ wn_1_119) (fun _ h => h)
  obtain ⟨cB, aB, rB⟩ := xl_arr (ty := .byte) (hg _ wn_1_118) (fun _ h => h)
  obtain ⟨cJ, aJ, rJ⟩ := xl_arr (ty := .long) (hg _ wn_1_82) (fun _ h => h)
  obtain ⟨cZ, aZ, rZ⟩ := xl_arr (ty := .boolean) (hg _ wn_9_102) (fun _ h => h)
  obtain ⟨cQ, cI2, kQ, e1, e2, e3, e4⟩ := hq
  refine ⟨fun k => if k = 0 then c0 else if k = 1 then c1 else if k = 2 then c2 else if k = 3 then c3 else if k = 4 then c4 else if k = 5 then c5 else if k = 6 then c6 else if k = 7 then c7 else if k = 8 then c8 else if k = 9 then c9 else if k = 10 then c10 else if k = 11 then c11 else c12, fun k => if k = 0 then i0 else if k = 1 then i1 else if k = 2 then i2 else if k = 3 then i3 else if k = 4 then i4 else if k = 5 then i5 else if k = 6 then i6 else if k = 7 then i7 else if k = 8 then i8 else if k = 9 then i9 else if k = 10 then i10 else if k = 11 then i11 else i12, cI, cB, cJ, cZ, cQ, ?_, ?_⟩
  · intro k q hq
    match k, hq with
    | 0, hq => cases hq; exact hK0
    | 1, hq => cases hq; exact hK1
    | 2, hq => cases hq; exact hK2
    | 3, hq => cases hq; exact hK3
    | 4, hq => cases hq; exact hK4
    | 5, hq => cases hq; exact hK5
    | 6, hq => cases hq; exact hK6
    | 7, hq => cases hq; exact hK7
    | 8, hq => cases hq; exact hK8
    | 9, hq => cases hq; exact hK9
    | 10, hq => cases hq; exact hK10
    | 11, hq => cases hq; exact hK11
    | 12, hq => cases hq; exact hK12
    | k + 13, hq => simp [xcl] at hq
  · intro k q hq
    match k, hq with
    | 0, hq => cases hq; exact ⟨aI, rI⟩
    | 1, hq => cases hq; exact ⟨aB, rB⟩
    | 2, hq => cases hq; exact ⟨aJ, rJ⟩
    | 3, hq => cases hq; exact ⟨aZ, rZ⟩
    | 4, hq => cases hq; exact ⟨fun n z => ⟨fun k h => (by cases h), kQ, e3, cI2, e4⟩, e1⟩
    | k + 5, hq => simp at hq
theorem xl_lays {C n d : String} {A B : Array Value} {s U : State} (hW : s.WarmedH U.vm) (hk : ∀ q : Nat, q < s.heap.size → U.heap[q]? = s.heap[q]?) (h : (Cond.laysStatic C n d).before A s = true) : (Cond.laysStatic C n d).before B U = true := by
  have h1 : (Cond.laysStatic C n d).before A (s.setVm U.vm) = true := Cond.holds_shifted (State.Shifted.of_warmed hW) _ [] rfl h
  obtain ⟨c, k, i, f, a, cell, g1, g2, g3, g4, g5, g6, g7, g8, g9⟩ := Cond.laysStatic_spec h1
  have g5' : U.heap[a]? = some cell := by
    have h5 : s.heap[a]? = some cell := g5
    rw [hk a (Array.getElem?_eq_some_iff.mp h5).1]; exact h5
  have g1' : U.vm.findClass C = some c := g1
  have g2' : U.fieldFound? C n d = some (c, k, i, f) := g2
  simp [Cond.before, Cond.holds, Cond.value, g1', g2', g3, g4, g5', g6, g7, g8, g9]
/-- what a throw reads, at any later state of the law's run -/
theorem xl_St {args : Array Value} {s U : State} (hts : ∀ w ∈ lw_tbl, w.before args s = true) (h1 : (Cond.isRef xs_u).before args s = true) (h2 : (Cond.isRef xs_n).before args s = true) (hW : s.WarmedH U.vm) (hk : ∀ q : Nat, q < s.heap.size → U.heap[q]? = s.heap[q]?) : xs_St U := by
  have t1 : (Cond.laysStatic "java/lang/Throwable" "UNASSIGNED_STACK" "[Ljava/lang/StackTraceElement;").before args s = true := hts _ (List.mem_append_right _ (by decide +kernel))
  have t2 : (Cond.laysStatic "java/lang/Throwable" "SUPPRESSED_SENTINEL" "Ljava/util/List;").before args s = true := hts _ (List.mem_append_right _ (by decide +kernel))
  have t3 : (Cond.initialized "java/lang/Throwable").before args s = true := hts _ (List.mem_append_right _ (by decide +kernel))
  have z1 := va_Zqof (A := fun _ => False) t1 t3 h1 (fun _ _ h => h)
  have z2 := va_Zqof (A := fun _ => False) t2 t3 h2 (fun _ _ h => h)
  refine ⟨(z1.kept (fun a h _ => hk a h)).moved hW.alike, (z2.kept (fun a h _ => hk a h)).moved hW.alike, xl_lays hW hk t1, xl_lays hW hk t2, xs_mem hW ?_⟩
  have key : ∀ w ∈ xs_L, w ∈ tables_1 := by decide +kernel
  intro w hw
  exact xs_same (U := s) (T := s) hw rfl (hts w (List.mem_append_right _ (key w hw)))
