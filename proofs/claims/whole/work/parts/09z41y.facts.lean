/-! What the Statement gives at the law's entry: the reference's row of words, the class's two strings, casts. -/
theorem lw_wd_l : ((flatC (Jvm.Cond.and given_1 narrow_1)).drop 14).take 113 = (List.range 113).map (fun j => Cond.eq (.elem (.static "CircuitCyclesModel" "WORDS" "[B") (.int (Int32.ofNat j))) (.int (dc_wd j))) := by decide +kernel
theorem lw_wd : ∀ j : Nat, j < 113 → Cond.eq (.elem (.static "CircuitCyclesModel" "WORDS" "[B") (.int (Int32.ofNat j))) (.int (dc_wd j)) ∈ flatC (Jvm.Cond.and given_1 narrow_1) := fun j hj => List.mem_of_mem_drop (i := 14) (List.mem_of_mem_take (i := 113) (by rw [lw_wd_l]; exact List.mem_map.mpr ⟨j, List.mem_range.mpr hj, rfl⟩))
def lw_tm (i : Nat) : Term := if i = 0 then .string "CircuitCycles$Scanner" 119 else .string "CircuitCycles$Scanner" 95
def lw_ln : List Nat := [113, 23]
def lw_by : List (List Int32) := [dc_kwl, dc_sgl]
theorem lw_st : ∀ i : Nat, i < 2 → lw_ln.getD i 0 < 2 ^ 31 ∧ Cond.exactly (lw_tm i) "java/lang/String" ∈ flatC (Jvm.Cond.and given_1 narrow_1) ∧ Cond.eq (.field (lw_tm i) "java/lang/String" "coder" "B") (.int 0) ∈ flatC (Jvm.Cond.and given_1 narrow_1) ∧ Cond.arrayOf (.field (lw_tm i) "java/lang/String" "value" "[B") .byte ∈ flatC (Jvm.Cond.and given_1 narrow_1) ∧ Cond.eq (.length (.field (lw_tm i) "java/lang/String" "value" "[B")) (.int (Int32.ofNat (lw_ln.getD i 0))) ∈ flatC (Jvm.Cond.and given_1 narrow_1) := by decide +kernel
theorem lw_se0_l : ((flatC (Jvm.Cond.and given_1 narrow_1)).drop 195).take 113 = (List.range 113).map (fun j => Cond.eq (.elem (.field (lw_tm 0) "java/lang/String" "value" "[B") (.int (Int32.ofNat j))) (.int ((lw_by.getD 0 []).getD j 0))) := by decide +kernel
theorem lw_se0 : ∀ j : Nat, j < 113 → Cond.eq (.elem (.field (lw_tm 0) "java/lang/String" "value" "[B") (.int (Int32.ofNat j))) (.int ((lw_by.getD 0 []).getD j 0)) ∈ flatC (Jvm.Cond.and given_1 narrow_1) := fun j hj => List.mem_of_mem_drop (i := 195) (List.mem_of_mem_take (i := 113) (by rw [lw_se0_l]; exact List.mem_map.mpr ⟨j, List.mem_range.mpr hj, rfl⟩))
theorem lw_se1_l : ((flatC (Jvm.Cond.and given_1 narrow_1)).drop 312).take 23 = (List.range 23).map (fun j => Cond.eq (.elem (.field (lw_tm 1) "java/lang/String" "value" "[B") (.int (Int32.ofNat j))) (.int ((lw_by.getD 1 []).getD j 0))) := by decide +kernel
theorem lw_se1 : ∀ j : Nat, j < 23 → Cond.eq (.elem (.field (lw_tm 1) "java/lang/String" "value" "[B") (.int (Int32.ofNat j))) (.int ((lw_by.getD 1 []).getD j 0)) ∈ flatC (Jvm.Cond.and given_1 narrow_1) := fun j hj => List.mem_of_mem_drop (i := 312) (List.mem_of_mem_take (i := 23) (by rw [lw_se1_l]; exact List.mem_map.mpr ⟨j, List.mem_range.mpr hj, rfl⟩))
theorem lw_ne : Cond.not (Cond.eq (lw_tm 0) (lw_tm 1)) ∈ flatC (Jvm.Cond.and given_1 narrow_1) ∨ Cond.not (Cond.eq (lw_tm 1) (lw_tm 0)) ∈ flatC (Jvm.Cond.and given_1 narrow_1) := by decide +kernel
theorem lw_facts {p : Program} {s : State} {m : MethodId} {meth : Method} {c : Code} {b L : Nat} {xs : Nat → Int32} {A : Nat → Prop} (hAe : A = fun q : Nat => s.heap.size ≤ q) (C0 : lw_At p s m meth c b L xs) : ∃ ad : Nat → Nat, dc_St A s s.heap ∧ xs_No s ∧ dc_Str ad A s s.heap := by
  obtain ⟨-, -, -, -, -, hts, -, -, -, hgv⟩ := C0
  have hnA : ∀ q : Nat, q < s.heap.size → ¬ A q := by rw [hAe]; exact fun q h h2 => absurd h (Nat.not_lt.mpr h2)
  have hsg := flat_of_before _ hgv
  have tb : ∀ w ∈ tables_1, w.before #[Value.ref b] s = true := fun w h => hts w (List.mem_append_right _ h)
  obtain ⟨t, ht, hT⟩ := va_Tof (tm := .static "CircuitCyclesModel" "WORDS" "[B") (ty := .byte) (N := 113) (f := fun j => .int (dc_wd j)) (A := A) (by decide) (hsg _ (by decide +kernel)) (va_eqt (hsg _ (by decide +kernel))) (fun j hj => va_eqt (hsg _ (lw_wd j hj))) hnA
  have hZ := va_Zref (A := A) (tb (.laysStatic "CircuitCyclesModel" "WORDS" "[B") (by decide +kernel)) (tb (.initialized "CircuitCyclesModel") (by decide +kernel)) ht hnA
  obtain ⟨adK, adV, ⟨hS1, -⟩, hev⟩ := vk_Sof (N := 2) (tm := lw_tm) (len := lw_ln) (byt := lw_by) (A := A) (fun i hi => (lw_st i hi).1) (fun i hi => hsg _ (lw_st i hi).2.1) (fun i hi => hsg _ (lw_st i hi).2.2.1) (fun i hi => hsg _ (lw_st i hi).2.2.2.1) (fun i hi => hsg _ (lw_st i hi).2.2.2.2)
    (fun i hi j hj => by
      match i, hi, hj with
      | 0, _, hj => exact hsg _ (lw_se0 j hj)
      | 1, _, hj => exact hsg _ (lw_se1 j hj))
    (fun i j hi hj hne => by
      match i, j, hi, hj, hne with
      | 0, 0, _, _, h => exact absurd rfl h
      | 1, 1, _, _, h => exact absurd rfl h
      | 0, 1, _, _, _ => exact lw_ne.imp (hsg _) (hsg _)
      | 1, 0, _, _, _ => exact lw_ne.symm.imp (hsg _) (hsg _)) hnA
  refine ⟨fun j => if j = 1 then adK 0 else if j = 2 then adV 0 else if j = 3 then adK 1 else adV 1, ⟨t, hZ, hT⟩, ?_, ?_, ?_, ?_, ?_, ?_, ?_⟩
  · intro r hr
    simp only [xs_NL, List.mem_cons, List.not_mem_nil, or_false] at hr
    rcases hr with rfl | rfl | rfl
    · exact xs_not (hsg (.not (.castable "java/lang/IllegalArgumentException" "java/lang/IllegalStateException")) (by decide +kernel))
    · exact xs_not (hsg (.not (.castable "java/lang/IndexOutOfBoundsException" "java/lang/IllegalStateException")) (by decide +kernel))
    · exact xs_not (hsg (.not (.castable "java/lang/IllegalArgumentException" "java/lang/IndexOutOfBoundsException")) (by decide +kernel))
  · exact vk_R.of (A := #[Value.ref b]) (tb (.stringRef "CircuitCycles$Scanner" 119 "module endmodule input output wire reg assign always posedge clock begin end if else case endcase default assert ") (by decide +kernel)) (hev 0 (by decide))
  · exact vk_R.of (A := #[Value.ref b]) (tb (.stringRef "CircuitCycles$Scanner" 95 "+-*&|^~!<>?:;,.()[]{}=@") (by decide +kernel)) (hev 1 (by decide))
  · exact va_Zof (tb (.laysStatic "java/lang/String" "COMPACT_STRINGS" "Z") (by decide +kernel)) (tb (.initialized "java/lang/String") (by decide +kernel)) (va_eqt (hsg _ (by decide +kernel))) hnA
  · exact va_Zqof (tb (.laysStatic "jdk/internal/util/Preconditions" "SIOOBE_FORMATTER" "Ljava/util/function/BiFunction;") (by decide +kernel)) (tb (.initialized "jdk/internal/util/Preconditions") (by decide +kernel)) (hsg _ (by decide +kernel)) hnA
  · exact hS1 0 (by decide)
  · exact hS1 1 (by decide)
