theorem dc_e2 {α : Type} {r : α} {x : ms} {y : α × ms} (h : some (r, x) = some y) : y.2 = x := by cases h; rfl
def ro_Qi (r : Int32) : Array Value → State → Outcome → State → Prop := fun _ st oc t => oc = .returned (some (.int r)) ∧ t.heap = st.heap
def ro_Ql (r : Int64) : Array Value → State → Outcome → State → Prop := fun _ st oc t => oc = .returned (some (.long r)) ∧ t.heap = st.heap
def exn (k : Nat) : String := match k with | 0 => "java/lang/UnsupportedOperationException" | 1 => "java/lang/IllegalArgumentException" | 2 => "java/lang/IllegalStateException" | _ => "java/lang/IndexOutOfBoundsException"
section ROK
variable {p : Program} {l : Launch} {e : Env} {R : Room} {s : State} {m : MethodId} {args : Array Value} {below : List Frame} {meth : Method} {c : Code} {H : Heap} {locs : List Loc} {cells slots : Nat} {Q : State → Prop}
variable {cc : ByteArray} {pc : Nat} {ls : Array Slot} {rest st0 : List Value} {D : va_G} {cl : List vw_C} {A : Nat → Prop} {tys : List (ClassId × FieldType)} {ws : va_W}
theorem ro_iret {v r : Int32} (hx : p.tables.exec = Jvm.exec) (hb : c.code = cc) (hr : meth.sig.returnType = some .int) (hlocks : meth.locks = false) (hd : decode cc pc = .ok (.ireturn, 1)) (h : v = r) : W p l e R s m args below meth c s.heap [] 0 0 (MQ below (ro_Qi r) args s 0 0 (fun _ => False)) (F0 m pc ls [.int v]) := by
  subst h
  exact W.iret hx hb hr (fun t ht hW => ⟨rfl, ht⟩) (fun q h => by cases h) hd hlocks
theorem ro_zret {v r : Int32} {ty : FieldType} (hx : p.tables.exec = Jvm.exec) (hb : c.code = cc) (hr : meth.sig.returnType = some ty) (hn : narrow ty (.int v) = .int v) (hlocks : meth.locks = false) (hd : decode cc pc = .ok (.ireturn, 1)) (h : v = r) : W p l e R s m args below meth c s.heap [] 0 0 (MQ below (ro_Qi r) args s 0 0 (fun _ => False)) (F0 m pc ls [.int v]) := by
  subst h
  exact W.zret hx hb hr hn (fun t ht hW => ⟨rfl, ht⟩) (fun q h => by cases h) hd hlocks
theorem ro_lret {v r : Int64} (hx : p.tables.exec = Jvm.exec) (hb : c.code = cc) (hr : meth.sig.returnType = some .long) (hlocks : meth.locks = false) (hd : decode cc pc = .ok (.lreturn, 1)) (h : v = r) : W p l e R s m args below meth c s.heap [] 0 0 (MQ below (ro_Ql r) args s 0 0 (fun _ => False)) (F0 m pc ls [.long v]) := by
  subst h
  exact W.lret hx hb hr (fun t ht hW => ⟨rfl, ht⟩) (fun q h => by cases h) hd hlocks
theorem ro_calli {r0 : Int32} {a : Array Value} (hr : va_Run p l e R s m args below meth c H locs cells slots 0 0 (F0 m pc ls st0) rest (ro_Qi r0 a) (fun _ => False)) (kk : W p l e R s m args below meth c H locs cells slots Q (F0 m (pc + 3) ls (.int r0 :: rest))) : W p l e R s m args below meth c H locs cells slots Q (F0 m pc ls st0) := by
  intro T hT X
  obtain ⟨v, st₀, t, T', L, h0, X', hL, e1, -, ⟨hv, hh⟩, st⟩ := hr T hT X
  cases hv
  obtain ⟨t2, a1, b1⟩ := kk T' (by rw [e1, hh, h0]) (Stand.forget X' (fun q h => (hL q h).elim))
  exact ⟨t2, st t2 a1, b1⟩
theorem ro_calll {r0 : Int64} {a : Array Value} (hr : va_Run p l e R s m args below meth c H locs cells slots 0 0 (F0 m pc ls st0) rest (ro_Ql r0 a) (fun _ => False)) (kk : W p l e R s m args below meth c H locs cells slots Q (F0 m (pc + 3) ls (.long r0 :: rest))) : W p l e R s m args below meth c H locs cells slots Q (F0 m pc ls st0) := by
  intro T hT X
  obtain ⟨v, st₀, t, T', L, h0, X', hL, e1, -, ⟨hv, hh⟩, st⟩ := hr T hT X
  cases hv
  obtain ⟨t2, a1, b1⟩ := kk T' (by rw [e1, hh, h0]) (Stand.forget X' (fun q h => (hL q h).elim))
  exact ⟨t2, st t2 a1, b1⟩
theorem ro_of {y : MethodName} {b : ByteArray} {n : Nat} {r : Option FieldType} {rm : Room} {av : List Value} {sz : Nat} {Qc : Array Value → State → Outcome → State → Prop} (hy : plainName y.cls = true) (hn : (lg_sl av).length ≤ n)
    (body : ∀ (p : Program) (e : Env) (s : State) (m : MethodId) (below : List Frame) (meth : Method) (c : Code), p.tables.exec = Jvm.exec → c.code = b → c.maxLocals = n → s.vm.findClass y.cls = some m.cls → (∀ w ∈ xw_G, w.before av.toArray s = true) → meth.sig.returnType = r → meth.locks = false → va_P D cl ws s.heap → va_K D cl tys s → xn_St s → va_D (fun _ => True) ws → ∀ ls : Array Slot, lv_has ls n (lv_args 0 av) →
      W p l e rm s m av.toArray below meth c s.heap [] 0 0 (MQ below Qc av.toArray s 0 0 (fun _ => False)) (F0 m 0 ls [])) : Met l y (xw y b n r) rm (xk_P D cl tys av sz ws) Qc 0 0 (fun _ => False) := by
  refine Met.ofW (cc := b) (maxL := n) (ret := r) hy rfl ?_
  intro p e s m args below meth c s₁ B hml hv
  obtain ⟨rfl, hsz, hP, hK, hD0, hN⟩ := hv
  have hts := atoms_spec (ws := xw y b n r) B.pre
  rw [lg_entry_eq]
  exact body p e s m below meth c B.exec B.bytes hml (findClass_of_methodNamed B.named) (fun w h => hts w (List.mem_cons_of_mem _ h)) B.returns B.notSynchronized hP hK hN hD0 _ (lv_entry av hn)
theorem tx_of {y : MethodName} {b : ByteArray} {n : Nat} {r : Option FieldType} {rm : Room} {av : List Value} {sz mc ms : Nat} {free : Addr → Prop} {Qc : Array Value → State → Outcome → State → Prop} (hy : plainName y.cls = true) (hn : (lg_sl av).length ≤ n)
    (body : ∀ (p : Program) (e : Env) (s : State) (m : MethodId) (below : List Frame) (meth : Method) (c : Code), p.tables.exec = Jvm.exec → c.code = b → c.maxLocals = n → s.vm.findClass y.cls = some m.cls → (∀ w ∈ xw_G, w.before av.toArray s = true) → meth.sig.returnType = r → meth.locks = false → (∀ x ∈ c.exceptionTable.toList, False) → xs_St s → va_P D cl ws s.heap → va_K D cl tys s → xn_St s → va_D (fun _ => True) ws → ∀ ls : Array Slot, lv_has ls n (lv_args 0 av) →
      W p l e rm s m av.toArray below meth c s.heap [] 0 0 (xc_MQ below Qc av.toArray s mc ms free) (F0 m 0 ls [])) : xc_Met l y (xw y b n r) rm (xk_PX D cl tys av sz ws) Qc mc ms free := by
  refine xc_ofW (cc := b) (maxL := n) (ret := r) hy rfl ?_
  intro p e s m args below meth c s₁ B hml hex hv
  obtain ⟨⟨rfl, hsz, hP, hK, hD0, hN⟩, hst⟩ := hv
  have hts := atoms_spec (ws := xw y b n r) B.pre
  rw [lg_entry_eq]
  exact body p e s m below meth c B.exec B.bytes hml (findClass_of_methodNamed B.named) (fun w h => hts w (List.mem_cons_of_mem _ h)) B.returns B.notSynchronized hex hst hP hK hN hD0 _ (lv_entry av hn)
theorem ro_runV {y : MethodName} {b2 : ByteArray} {nL n2 i ar ci q0 : Nat} {r2 : Option FieldType} {rm : Room} {own : String} {C : vw_C} {b : Addr} {As : List Value} {fs : List Value} {Qc : Array Value → State → Outcome → State → Prop} (S : CallFix p m c cc nL s args xw_G own) (hK : va_K D cl tys s) (hN : xn_St s)
    (M : Met l y (xw y b2 n2 r2) rm (xk_P D cl tys (.ref b :: As) H.size ws) Qc 0 0 (fun _ => False)) (hP : va_P D cl ws H) (hD : va_D A ws) (hc : cl[ci]? = some C) (he : ws[q0]? = some (b, .inr (ci, fs)))
    (h1 : Cond.methodLink own i y ∈ xw_G) (h2 : Cond.instanceMethod y ∈ xw_G) (h3 : Cond.selects C.1 y y ∈ xw_G) (h4 : Cond.initialized C.1 ∈ xw_G) (h5 : Cond.code y b2 n2 r2 ∈ xw_G) (hrc : rm.cells = 0) (hrs : rm.slots = 0)
    (hd : y.cls = C.1 ∧ y.cls ≠ "java/lang/invoke/MethodHandle" ∧ y.cls ≠ "java/lang/invoke/VarHandle" ∧ (parseMethodDescriptor y.desc).map (fun d => d.parameters.length) = some ar) (hR : rm.frames + 1 ≤ R.frames ∧ 8 + (n2 + 11) + rm.locals ≤ R.locals)
    (hn : As.length = ar) (hsize : ls.size = nL) (hst : st0 = As.reverse ++ .ref b :: rest) (hw : (rest.map fun v => v.category).sum ≤ 8) (hdg : decode cc pc = .ok (.invokevirtual i, 3)) (hf : cells + 0 ≤ R.cells ∧ slots + 0 ≤ R.slots) :
    va_Run p l e R s m args below meth c H locs cells slots 0 0 (F0 m pc ls st0) rest (Qc (Value.ref b :: As).toArray) (fun _ => False) :=
  va_runV (As := As) (rest := rest) S M (cwV ar S.2.2.2.2 (xw_gV h1 h2 h3 h4 h5) rfl hrc hrs hd hR) ⟨xk_blind, va_recv hK hP hc he, fun U hU hW => ⟨rfl, by rw [hU], by rw [hU]; exact hP, va_K.moved hW.alike hK, hD.weaken (fun _ _ _ _ => trivial), xn_moved hW hN⟩⟩ rfl hn hsize hst (lv_room hw) hdg hf
theorem ro_runS {y : MethodName} {b2 : ByteArray} {nL n2 i ar : Nat} {r2 : Option FieldType} {rm : Room} {own : String} {As : List Value} {Qc : Array Value → State → Outcome → State → Prop} (S : CallFix p m c cc nL s args xw_G own) (hK : va_K D cl tys s) (hN : xn_St s)
    (M : Met l y (xw y b2 n2 r2) rm (xk_P D cl tys As H.size ws) Qc 0 0 (fun _ => False)) (hP : va_P D cl ws H) (hD : va_D A ws)
    (h1 : Cond.methodLink own i y ∈ xw_G) (h2 : Cond.static y ∈ xw_G) (h4 : Cond.initialized y.cls ∈ xw_G) (h5 : Cond.code y b2 n2 r2 ∈ xw_G) (hrc : rm.cells = 0) (hrs : rm.slots = 0)
    (hd : y.cls ≠ "java/lang/invoke/MethodHandle" ∧ y.cls ≠ "java/lang/invoke/VarHandle" ∧ (parseMethodDescriptor y.desc).map (fun d => d.parameters.length) = some ar) (hR : rm.frames + 1 ≤ R.frames ∧ 8 + (n2 + 11) + rm.locals ≤ R.locals)
    (hn : As.length = ar) (hsize : ls.size = nL) (hst : st0 = As.reverse ++ rest) (hw : (rest.map fun v => v.category).sum ≤ 8) (hdg : decode cc pc = .ok (.invokestatic i, 3)) (hf : cells + 0 ≤ R.cells ∧ slots + 0 ≤ R.slots) :
    va_Run p l e R s m args below meth c H locs cells slots 0 0 (F0 m pc ls st0) rest (Qc As.toArray) (fun _ => False) :=
  va_runS (As := As) (rest := rest) S M ⟨callB_of ar S.2.2.2.2 (xw_g h5) rfl hrc hrs (S.2.2.2.2 _ h4) (S.2.2.2.2 _ h1) hd hR, S.2.2.2.2 _ h2⟩ ⟨xk_blind, fun U hU hW => ⟨rfl, by rw [hU], by rw [hU]; exact hP, va_K.moved hW.alike hK, hD.weaken (fun _ _ _ _ => trivial), xn_moved hW hN⟩⟩ rfl hn hsize hst (lv_room hw) hdg hf
end ROK
theorem wn_1_17 : (Jvm.Cond.initialized "java/lang/UnsupportedOperationException") ∈ xw_G := xw_c1 (List.mem_of_getElem? (i := 17) rfl) rfl
theorem wn_1_18 : (Jvm.Cond.initialized "java/lang/IllegalArgumentException") ∈ xw_G := xw_c1 (List.mem_of_getElem? (i := 18) rfl) rfl
theorem wn_1_26 : (Jvm.Cond.initialized "java/lang/IllegalStateException") ∈ xw_G := xw_c1 (List.mem_of_getElem? (i := 26) rfl) rfl
theorem wn_1_27 : (Jvm.Cond.initialized "java/lang/IndexOutOfBoundsException") ∈ xw_G := xw_c1 (List.mem_of_getElem? (i := 27) rfl) rfl
theorem wn_7_29 : (Jvm.Cond.classLink "CircuitCycles" (75 : Nat) "java/lang/UnsupportedOperationException") ∈ xw_G := xw_c7 (List.mem_of_getElem? (i := 29) rfl) rfl
theorem wn_7_105 : (Jvm.Cond.classLink "CircuitCycles" (82 : Nat) "java/lang/IllegalArgumentException") ∈ xw_G := xw_c7 (List.mem_of_getElem? (i := 105) rfl) rfl
theorem wn_7_128 : (Jvm.Cond.classLink "CircuitCycles" (140 : Nat) "java/lang/IllegalStateException") ∈ xw_G := xw_c7 (List.mem_of_getElem? (i := 128) rfl) rfl
theorem wn_7_177 : (Jvm.Cond.classLink "CircuitCycles" (166 : Nat) "java/lang/IndexOutOfBoundsException") ∈ xw_G := xw_c7 (List.mem_of_getElem? (i := 177) rfl) rfl
theorem dn_C_count_10 : decode bn_C_count 10 = .ok (.dup, 1) := by decide +kernel
theorem dn_C_count_11 : decode bn_C_count 11 = .ok (.invokespecial 142, 3) := by decide +kernel
theorem dn_C_count_14 : decode bn_C_count 14 = .ok (.athrow, 1) := by decide +kernel
theorem dn_C_count_117 : decode bn_C_count 117 = .ok (.dup, 1) := by decide +kernel
theorem dn_C_count_118 : decode bn_C_count 118 = .ok (.invokespecial 84, 3) := by decide +kernel
theorem dn_C_count_121 : decode bn_C_count 121 = .ok (.athrow, 1) := by decide +kernel
theorem dn_C_end_15 : decode bn_C_end 15 = .ok (.dup, 1) := by decide +kernel
theorem dn_C_end_16 : decode bn_C_end 16 = .ok (.invokespecial 84, 3) := by decide +kernel
theorem dn_C_end_19 : decode bn_C_end 19 = .ok (.athrow, 1) := by decide +kernel
theorem dn_C_failing_10 : decode bn_C_failing 10 = .ok (.dup, 1) := by decide +kernel
theorem dn_C_failing_11 : decode bn_C_failing 11 = .ok (.invokespecial 142, 3) := by decide +kernel
theorem dn_C_failing_14 : decode bn_C_failing 14 = .ok (.athrow, 1) := by decide +kernel
theorem dn_C_feed_15 : decode bn_C_feed 15 = .ok (.dup, 1) := by decide +kernel
theorem dn_C_feed_16 : decode bn_C_feed 16 = .ok (.invokespecial 77, 3) := by decide +kernel
theorem dn_C_feed_19 : decode bn_C_feed 19 = .ok (.athrow, 1) := by decide +kernel
theorem dn_C_find_10 : decode bn_C_find 10 = .ok (.dup, 1) := by decide +kernel
theorem dn_C_find_11 : decode bn_C_find 11 = .ok (.invokespecial 142, 3) := by decide +kernel
theorem dn_C_find_14 : decode bn_C_find 14 = .ok (.athrow, 1) := by decide +kernel
theorem dn_C_reset_10 : decode bn_C_reset 10 = .ok (.dup, 1) := by decide +kernel
theorem dn_C_reset_11 : decode bn_C_reset 11 = .ok (.invokespecial 142, 3) := by decide +kernel
theorem dn_C_reset_14 : decode bn_C_reset 14 = .ok (.athrow, 1) := by decide +kernel
theorem dn_C_set_10 : decode bn_C_set 10 = .ok (.dup, 1) := by decide +kernel
theorem dn_C_set_11 : decode bn_C_set 11 = .ok (.invokespecial 142, 3) := by decide +kernel
theorem dn_C_set_14 : decode bn_C_set 14 = .ok (.athrow, 1) := by decide +kernel
theorem dn_C_set_33 : decode bn_C_set 33 = .ok (.dup, 1) := by decide +kernel
theorem dn_C_set_34 : decode bn_C_set 34 = .ok (.invokespecial 168, 3) := by decide +kernel
theorem dn_C_set_37 : decode bn_C_set 37 = .ok (.athrow, 1) := by decide +kernel
theorem dn_C_set_52 : decode bn_C_set 52 = .ok (.dup, 1) := by decide +kernel
theorem dn_C_set_53 : decode bn_C_set 53 = .ok (.invokespecial 84, 3) := by decide +kernel
theorem dn_C_set_56 : decode bn_C_set 56 = .ok (.athrow, 1) := by decide +kernel
theorem dn_C_set_81 : decode bn_C_set 81 = .ok (.dup, 1) := by decide +kernel
theorem dn_C_set_82 : decode bn_C_set 82 = .ok (.invokespecial 84, 3) := by decide +kernel
theorem dn_C_set_85 : decode bn_C_set 85 = .ok (.athrow, 1) := by decide +kernel
theorem dn_C_signal_10 : decode bn_C_signal 10 = .ok (.dup, 1) := by decide +kernel
theorem dn_C_signal_11 : decode bn_C_signal 11 = .ok (.invokespecial 142, 3) := by decide +kernel
theorem dn_C_signal_14 : decode bn_C_signal 14 = .ok (.athrow, 1) := by decide +kernel
theorem dn_C_signal_33 : decode bn_C_signal 33 = .ok (.dup, 1) := by decide +kernel
theorem dn_C_signal_34 : decode bn_C_signal 34 = .ok (.invokespecial 168, 3) := by decide +kernel
theorem dn_C_signal_37 : decode bn_C_signal 37 = .ok (.athrow, 1) := by decide +kernel
theorem dn_C_signal_94 : decode bn_C_signal 94 = .ok (.dup, 1) := by decide +kernel
theorem dn_C_signal_95 : decode bn_C_signal 95 = .ok (.invokespecial 84, 3) := by decide +kernel
theorem dn_C_signal_98 : decode bn_C_signal 98 = .ok (.athrow, 1) := by decide +kernel
theorem dn_C_step_10 : decode bn_C_step 10 = .ok (.dup, 1) := by decide +kernel
theorem dn_C_step_11 : decode bn_C_step 11 = .ok (.invokespecial 142, 3) := by decide +kernel
theorem dn_C_step_14 : decode bn_C_step 14 = .ok (.athrow, 1) := by decide +kernel
theorem dn_C_value_10 : decode bn_C_value 10 = .ok (.dup, 1) := by decide +kernel
theorem dn_C_value_11 : decode bn_C_value 11 = .ok (.invokespecial 142, 3) := by decide +kernel
theorem dn_C_value_14 : decode bn_C_value 14 = .ok (.athrow, 1) := by decide +kernel
theorem dn_C_value_33 : decode bn_C_value 33 = .ok (.dup, 1) := by decide +kernel
theorem dn_C_value_34 : decode bn_C_value 34 = .ok (.invokespecial 168, 3) := by decide +kernel
theorem dn_C_value_37 : decode bn_C_value 37 = .ok (.athrow, 1) := by decide +kernel
theorem xa_C_77 : ∀ w ∈ Bundle.ownAtoms0 rn_C 77 "java/lang/UnsupportedOperationException" ["java/lang/RuntimeException", "java/lang/Exception"], w ∈ xw_G ∨ w = .isRef xs_u ∨ w = .isRef xs_n ∨ w = .laysStatic "java/lang/Throwable" "UNASSIGNED_STACK" "[Ljava/lang/StackTraceElement;" ∨ w = .laysStatic "java/lang/Throwable" "SUPPRESSED_SENTINEL" "Ljava/util/List;" ∨ w ∈ xs_L := by
  have key : ∀ w ∈ Bundle.ownAtoms0 "CircuitCycles" 77 "java/lang/UnsupportedOperationException" ["java/lang/RuntimeException", "java/lang/Exception"], (w ∈ tables_1 ∧ goodWord w = true) ∨ w = .isRef xs_u ∨ w = .isRef xs_n ∨ w = .laysStatic "java/lang/Throwable" "UNASSIGNED_STACK" "[Ljava/lang/StackTraceElement;" ∨ w = .laysStatic "java/lang/Throwable" "SUPPRESSED_SENTINEL" "Ljava/util/List;" ∨ w ∈ xs_L := by decide +kernel
  intro w hw
  rcases key w hw with ⟨h1, h2⟩ | h
  · exact Or.inl (xw_tab h1 h2)
  · exact Or.inr h
theorem xa_C_84 : ∀ w ∈ Bundle.ownAtoms0 rn_C 84 "java/lang/IllegalArgumentException" ["java/lang/RuntimeException", "java/lang/Exception"], w ∈ xw_G ∨ w = .isRef xs_u ∨ w = .isRef xs_n ∨ w = .laysStatic "java/lang/Throwable" "UNASSIGNED_STACK" "[Ljava/lang/StackTraceElement;" ∨ w = .laysStatic "java/lang/Throwable" "SUPPRESSED_SENTINEL" "Ljava/util/List;" ∨ w ∈ xs_L := by
  have key : ∀ w ∈ Bundle.ownAtoms0 "CircuitCycles" 84 "java/lang/IllegalArgumentException" ["java/lang/RuntimeException", "java/lang/Exception"], (w ∈ tables_1 ∧ goodWord w = true) ∨ w = .isRef xs_u ∨ w = .isRef xs_n ∨ w = .laysStatic "java/lang/Throwable" "UNASSIGNED_STACK" "[Ljava/lang/StackTraceElement;" ∨ w = .laysStatic "java/lang/Throwable" "SUPPRESSED_SENTINEL" "Ljava/util/List;" ∨ w ∈ xs_L := by decide +kernel
  intro w hw
  rcases key w hw with ⟨h1, h2⟩ | h
  · exact Or.inl (xw_tab h1 h2)
  · exact Or.inr h
theorem xa_C_142 : ∀ w ∈ Bundle.ownAtoms0 rn_C 142 "java/lang/IllegalStateException" ["java/lang/RuntimeException", "java/lang/Exception"], w ∈ xw_G ∨ w = .isRef xs_u ∨ w = .isRef xs_n ∨ w = .laysStatic "java/lang/Throwable" "UNASSIGNED_STACK" "[Ljava/lang/StackTraceElement;" ∨ w = .laysStatic "java/lang/Throwable" "SUPPRESSED_SENTINEL" "Ljava/util/List;" ∨ w ∈ xs_L := by
  have key : ∀ w ∈ Bundle.ownAtoms0 "CircuitCycles" 142 "java/lang/IllegalStateException" ["java/lang/RuntimeException", "java/lang/Exception"], (w ∈ tables_1 ∧ goodWord w = true) ∨ w = .isRef xs_u ∨ w = .isRef xs_n ∨ w = .laysStatic "java/lang/Throwable" "UNASSIGNED_STACK" "[Ljava/lang/StackTraceElement;" ∨ w = .laysStatic "java/lang/Throwable" "SUPPRESSED_SENTINEL" "Ljava/util/List;" ∨ w ∈ xs_L := by decide +kernel
  intro w hw
  rcases key w hw with ⟨h1, h2⟩ | h
  · exact Or.inl (xw_tab h1 h2)
  · exact Or.inr h
theorem xa_C_168 : ∀ w ∈ Bundle.ownAtoms0 rn_C 168 "java/lang/IndexOutOfBoundsException" ["java/lang/RuntimeException", "java/lang/Exception"], w ∈ xw_G ∨ w = .isRef xs_u ∨ w = .isRef xs_n ∨ w = .laysStatic "java/lang/Throwable" "UNASSIGNED_STACK" "[Ljava/lang/StackTraceElement;" ∨ w = .laysStatic "java/lang/Throwable" "SUPPRESSED_SENTINEL" "Ljava/util/List;" ∨ w ∈ xs_L := by
  have key : ∀ w ∈ Bundle.ownAtoms0 "CircuitCycles" 168 "java/lang/IndexOutOfBoundsException" ["java/lang/RuntimeException", "java/lang/Exception"], (w ∈ tables_1 ∧ goodWord w = true) ∨ w = .isRef xs_u ∨ w = .isRef xs_n ∨ w = .laysStatic "java/lang/Throwable" "UNASSIGNED_STACK" "[Ljava/lang/StackTraceElement;" ∨ w = .laysStatic "java/lang/Throwable" "SUPPRESSED_SENTINEL" "Ljava/util/List;" ∨ w ∈ xs_L := by decide +kernel
  intro w hw
  rcases key w hw with ⟨h1, h2⟩ | h
  · exact Or.inl (xw_tab h1 h2)
  · exact Or.inr h
set_option maxHeartbeats 8000000 in
set_option maxRecDepth 100000 in
theorem tc_C_feed_C (l : Launch) (hlt : l.stackTraces = false) (dC : Nat → ClassId) (dI : Nat → Nat → Nat) (cI cB cJ cZ cQ : ClassId) (N sz : Nat) (a : Nat → Nat) (v : Nat → Value) (v1 : Int32) (v2 : Int32) (v3 : Int32) (v4 : Int32) (v5 : Int32) (s : ms) (y : Nat) (hf : tx_C_feed_C N v1 v2 v3 v4 v5 s = some y) : xc_Met l yn_C_feed (xw yn_C_feed bn_C_feed 6 (some .int)) ({ frames := 6, cells := 1, slots := 6, locals := 100 }) (xk_PX (dC, dI) xcl (xt cI cB cJ cZ cQ) [.ref ((a 100)), .int v1, .int v2, .int v3, .int v4, .int v5] sz (wC a v cI cB cJ cZ cQ s)) (xk_X (exn y)) 1 6 (fun _ => False) := by
  refine tx_of (by decide) (Nat.le_of_ble_eq_true rfl) ?_
  intro p e s0 m below meth c hx hb hml hown hg hr hlocks hex hst hP hK hN hD ls hl
  have hown : s0.vm.findClass rn_C = some m.cls := hown
  suffices kk : ∀ QQ : State → Prop, QQ = xc_MQ below (xk_X (exn y)) [.ref ((a 100)), .int v1, .int v2, .int v3, .int v4, .int v5].toArray s0 1 6 (fun _ => False) → ∀ ls : Array Slot, va_P (dC, dI) xcl (wC a v cI cB cJ cZ cQ s) s0.heap → va_D (fun _ => True) (wC a v cI cB cJ cZ cQ s) → lv_has ls 6 [(0, .ref ((a 100))), (1, .int v1), (2, .int v2), (3, .int v3), (4, .int v4), (5, .int v5)] → W p l e ({ frames := 6, cells := 1, slots := 6, locals := 100 }) s0 m [.ref ((a 100)), .int v1, .int v2, .int v3, .int v4, .int v5].toArray below meth c s0.heap [] 0 0 QQ (F0 m 0 ls []) by
    exact kk _ rfl ls hP hD hl
  clear hP hD hl ls
  intro QQ hQQ
  intro ls hP hD hl
  unfold tx_C_feed_C at hf
  refine lv_aload_n hx hb dn_C_feed_0 rfl (lv_at hl 0 rfl) ?_
  refine va_get (D := (dC, dI)) (ci := 1) (v := .int ((s.1 200 0))) (C := rn_C) (T := fn_C) (N := 11) hx hb hg in_C hown hK hP 0 rfl rfl 0 (by decide) (hg _ wn_3_125) (fun _ h9 => h9) rfl dn_C_feed_1 ?_
  refine lv_bipush (v := 20) hx hb dn_C_feed_4 (by decide) ?_
  refine lv_iadd hx hb dn_C_feed_6 ?_
  refine lv_ldc hx hb hown (hg _ wn_7_28) dn_C_feed_7 ?_
  refine lv_icmp_le (tgt := 20) hx hb dn_C_feed_9 (by decide) (fun h => ?_) (fun h => ?_)
  · have hf := (if_pos h).symm.trans hf
    refine lv_aload_n hx hb dn_C_feed_20 rfl (lv_at hl 0 rfl) ?_
    refine lv_iload_n hx hb dn_C_feed_21 rfl (lv_at hl 1 rfl) ?_
    cases hf
  · have hf := (if_neg h).symm.trans hf
    rw [hQQ, ← Option.some.inj hf]
    exact xk_throw (cls := "java/lang/UnsupportedOperationException") (names := ["java/lang/RuntimeException", "java/lang/Exception"]) hx hb hlt hown hg hst (by rw [hml]; exact hl.1) hlocks hex (by decide +kernel) (by decide +kernel) wn_7_29 wn_1_17 xa_C_77 (Nat.le_of_ble_eq_true rfl) (Nat.le_of_ble_eq_true rfl) (Nat.le_of_ble_eq_true rfl) (Nat.le_of_ble_eq_true rfl) dn_C_feed_12 dn_C_feed_15 dn_C_feed_16 dn_C_feed_19
set_option maxHeartbeats 8000000 in
set_option maxRecDepth 100000 in
theorem tc_C_end_C (l : Launch) (hlt : l.stackTraces = false) (dC : Nat → ClassId) (dI : Nat → Nat → Nat) (cI cB cJ cZ cQ : ClassId) (N sz : Nat) (a : Nat → Nat) (v : Nat → Value) (v1 : Int32) (s : ms) (y : Nat) (hf : tx_C_end_C N v1 s = some y) : xc_Met l yn_C_end (xw yn_C_end bn_C_end 2 none) ({ frames := 6, cells := 1, slots := 6, locals := 100 }) (xk_PX (dC, dI) xcl (xt cI cB cJ cZ cQ) [.ref ((a 100)), .int v1] sz (wC a v cI cB cJ cZ cQ s)) (xk_X (exn y)) 1 6 (fun _ => False) := by
  refine tx_of (by decide) (Nat.le_of_ble_eq_true rfl) ?_
  intro p e s0 m below meth c hx hb hml hown hg hr hlocks hex hst hP hK hN hD ls hl
  have hown : s0.vm.findClass rn_C = some m.cls := hown
  suffices kk : ∀ QQ : State → Prop, QQ = xc_MQ below (xk_X (exn y)) [.ref ((a 100)), .int v1].toArray s0 1 6 (fun _ => False) → ∀ ls : Array Slot, va_P (dC, dI) xcl (wC a v cI cB cJ cZ cQ s) s0.heap → va_D (fun _ => True) (wC a v cI cB cJ cZ cQ s) → lv_has ls 2 [(0, .ref ((a 100))), (1, .int v1)] → W p l e ({ frames := 6, cells := 1, slots := 6, locals := 100 }) s0 m [.ref ((a 100)), .int v1].toArray below meth c s0.heap [] 0 0 QQ (F0 m 0 ls []) by
    exact kk _ rfl ls hP hD hl
  clear hP hD hl ls
  intro QQ hQQ
  have bl_12 : ∀ (s : ms), bx_C_end_C_12 N s = some y → ∀ ls : Array Slot, va_P (dC, dI) xcl (wC a v cI cB cJ cZ cQ s) s0.heap → va_D (fun _ => True) (wC a v cI cB cJ cZ cQ s) → lv_has ls 2 [] → W p l e ({ frames := 6, cells := 1, slots := 6, locals := 100 }) s0 m [.ref ((a 100)), .int v1].toArray below meth c s0.heap [] 0 0 QQ (F0 m 12 ls []) := by
    intro s hf ls hP hD hl
    unfold bx_C_end_C_12 at hf
    rw [hQQ, ← Option.some.inj hf]
    exact xk_throw (cls := "java/lang/IllegalArgumentException") (names := ["java/lang/RuntimeException", "java/lang/Exception"]) hx hb hlt hown hg hst (by rw [hml]; exact hl.1) hlocks hex (by decide +kernel) (by decide +kernel) wn_7_105 wn_1_18 xa_C_84 (Nat.le_of_ble_eq_true rfl) (Nat.le_of_ble_eq_true rfl) (Nat.le_of_ble_eq_true rfl) (Nat.le_of_ble_eq_true rfl) dn_C_end_12 dn_C_end_15 dn_C_end_16 dn_C_end_19
  intro ls hP hD hl
  unfold tx_C_end_C at hf
  refine lv_iload_n hx hb dn_C_end_0 rfl (lv_at hl 1 rfl) ?_
  refine lv_if_lt (tgt := 12) hx hb dn_C_end_1 (by decide) (fun h => ?_) (fun h => ?_)
  · have hf := (if_pos h).symm.trans hf
    exact bl_12 s hf ls hP hD (lv_sub hl [] rfl)
  · have hf := (if_neg h).symm.trans hf
    refine lv_iload_n hx hb dn_C_end_4 rfl (lv_at hl 1 rfl) ?_
    refine lv_aload_n hx hb dn_C_end_5 rfl (lv_at hl 0 rfl) ?_
    refine va_get (D := (dC, dI)) (ci := 1) (v := .int ((s.1 200 0))) (C := rn_C) (T := fn_C) (N := 11) hx hb hg in_C hown hK hP 0 rfl rfl 0 (by decide) (hg _ wn_3_125) (fun _ h9 => h9) rfl dn_C_end_6 ?_
    refine lv_icmp_le (tgt := 20) hx hb dn_C_end_9 (by decide) (fun h => ?_) (fun h => ?_)
    · have hf := (if_pos h).symm.trans hf
      refine lv_aload_n hx hb dn_C_end_20 rfl (lv_at hl 0 rfl) ?_
      refine lv_iload_n hx hb dn_C_end_21 rfl (lv_at hl 1 rfl) ?_
      cases hf
    · have hf := (if_neg h).symm.trans hf
      exact bl_12 s hf ls hP hD (lv_sub hl [] rfl)
set_option maxHeartbeats 8000000 in
set_option maxRecDepth 100000 in
theorem tc_C_count_C (l : Launch) (hlt : l.stackTraces = false) (dC : Nat → ClassId) (dI : Nat → Nat → Nat) (cI cB cJ cZ cQ : ClassId) (N sz : Nat) (a : Nat → Nat) (v : Nat → Value) (v1 : Int32) (s : ms) (y : Nat) (hf : tx_C_count_C N v1 s = some y) : xc_Met l yn_C_count (xw yn_C_count bn_C_count 3 (some .int)) ({ frames := 6, cells := 1, slots := 6, locals := 100 }) (xk_PX (dC, dI) xcl (xt cI cB cJ cZ cQ) [.ref ((a 100)), .int v1] sz (wC a v cI cB cJ cZ cQ s)) (xk_X (exn y)) 1 6 (fun _ => False) := by
  refine tx_of (by decide) (Nat.le_of_ble_eq_true rfl) ?_
  intro p e s0 m below meth c hx hb hml hown hg hr hlocks hex hst hP hK hN hD ls hl
  have hown : s0.vm.findClass rn_C = some m.cls := hown
  suffices kk : ∀ QQ : State → Prop, QQ = xc_MQ below (xk_X (exn y)) [.ref ((a 100)), .int v1].toArray s0 1 6 (fun _ => False) → ∀ ls : Array Slot, va_P (dC, dI) xcl (wC a v cI cB cJ cZ cQ s) s0.heap → va_D (fun _ => True) (wC a v cI cB cJ cZ cQ s) → lv_has ls 3 [(0, .ref ((a 100))), (1, .int v1)] → W p l e ({ frames := 6, cells := 1, slots := 6, locals := 100 }) s0 m [.ref ((a 100)), .int v1].toArray below meth c s0.heap [] 0 0 QQ (F0 m 0 ls []) by
    exact kk _ rfl ls hP hD hl
  clear hP hD hl ls
  intro QQ hQQ
  intro ls hP hD hl
  unfold tx_C_count_C at hf
  refine lv_aload_n hx hb dn_C_count_0 rfl (lv_at hl 0 rfl) ?_
  refine va_get (D := (dC, dI)) (ci := 1) (v := .int ((s.1 208 0))) (C := rn_C) (T := fn_C) (N := 11) hx hb hg in_C hown hK hP 0 rfl rfl 8 (by decide) (hg _ wn_3_133) (fun _ h9 => h9) rfl dn_C_count_1 ?_
  refine lv_if_ne (tgt := 15) hx hb dn_C_count_4 (by decide) (fun h => ?_) (fun h => ?_)
  · have hf := (if_neg h).symm.trans hf
    refine lv_aload_n hx hb dn_C_count_15 rfl (lv_at hl 0 rfl) ?_
    refine va_get (D := (dC, dI)) (ci := 1) (v := .ref ((a 112))) (C := rn_C) (T := fn_C) (N := 11) hx hb hg in_C hown hK hP 0 rfl rfl 9 (by decide) (hg _ wn_3_134) (fun _ h9 => h9) rfl dn_C_count_16 ?_
    refine va_get (D := (dC, dI)) (ci := 9) (v := .ref ((a 113))) (C := rn_Circuit) (T := fn_Circuit) (N := 14) hx hb hg in_Circuit hown hK hP 12 rfl rfl 0 (by decide) (hg _ wn_3_62) (fun _ h9 => h9) rfl dn_C_count_19 ?_
    refine lv_astore_n (lv' := [(2, .ref ((a 113))), (0, .ref ((a 100))), (1, .int v1)]) hx hb dn_C_count_22 rfl hl (by decide) rfl (fun ls hl => ?_)
    refine lv_iload_n hx hb dn_C_count_23 rfl (lv_at hl 2 rfl) ?_
    by_cases h_0 : v1 = 0
    · have hf := (if_pos h_0).symm.trans hf
      refine xk_ti (y := 0) h_0 ?_
      refine lv_tableIn (tgt := 68) hx hb dn_C_count_24 (by decide) (by decide) rfl (by decide) ?_
      refine lv_aload_n hx hb dn_C_count_68 rfl (lv_at hl 0 rfl) ?_
      refine va_get (D := (dC, dI)) (ci := 10) (v := .int ((s.1 359 0))) (C := rn_Design) (T := fn_Design) (N := 16) hx hb hg in_Design hown hK hP 13 rfl rfl 4 (by decide) (hg _ wn_3_11) (fun _ h9 => h9) rfl dn_C_count_69 ?_
      cases hf
    have hf := (if_neg h_0).symm.trans hf
    by_cases h_1 : v1 = 1
    · have hf := (if_pos h_1).symm.trans hf
      refine xk_ti (y := 1) h_1 ?_
      refine lv_tableIn (tgt := 73) hx hb dn_C_count_24 (by decide) (by decide) rfl (by decide) ?_
      refine lv_aload_n hx hb dn_C_count_73 rfl (lv_at hl 1 rfl) ?_
      refine va_get (D := (dC, dI)) (ci := 1) (v := .ref ((a 112))) (C := rn_C) (T := fn_C) (N := 11) hx hb hg in_C hown hK hP 0 rfl rfl 9 (by decide) (hg _ wn_3_134) (fun _ h9 => h9) rfl dn_C_count_74 ?_
      refine va_get (D := (dC, dI)) (ci := 9) (v := .int ((s.1 342 0))) (C := rn_Circuit) (T := fn_Circuit) (N := 14) hx hb hg in_Circuit hown hK hP 12 rfl rfl 1 (by decide) (hg _ wn_3_66) (fun _ h9 => h9) rfl dn_C_count_77 ?_
      refine lv_iconst (v := 1) hx hb dn_C_count_80 (by decide) ?_
      refine lv_isub hx hb dn_C_count_81 ?_
      cases hf
    have hf := (if_neg h_1).symm.trans hf
    by_cases h_2 : v1 = 2
    · have hf := (if_pos h_2).symm.trans hf
      refine xk_ti (y := 2) h_2 ?_
      refine lv_tableIn (tgt := 83) hx hb dn_C_count_24 (by decide) (by decide) rfl (by decide) ?_
      refine lv_aload_n hx hb dn_C_count_83 rfl (lv_at hl 1 rfl) ?_
      refine va_get (D := (dC, dI)) (ci := 1) (v := .ref ((a 112))) (C := rn_C) (T := fn_C) (N := 11) hx hb hg in_C hown hK hP 0 rfl rfl 9 (by decide) (hg _ wn_3_134) (fun _ h9 => h9) rfl dn_C_count_84 ?_
      refine va_get (D := (dC, dI)) (ci := 9) (v := .int ((s.1 343 0))) (C := rn_Circuit) (T := fn_Circuit) (N := 14) hx hb hg in_Circuit hown hK hP 12 rfl rfl 2 (by decide) (hg _ wn_3_71) (fun _ h9 => h9) rfl dn_C_count_87 ?_
      cases hf
    have hf := (if_neg h_2).symm.trans hf
    by_cases h_3 : v1 = 3
    · have hf := (if_pos h_3).symm.trans hf
      refine xk_ti (y := 3) h_3 ?_
      refine lv_tableIn (tgt := 91) hx hb dn_C_count_24 (by decide) (by decide) rfl (by decide) ?_
      refine lv_aload_n hx hb dn_C_count_91 rfl (lv_at hl 0 rfl) ?_
      refine lv_iconst (v := 2) hx hb dn_C_count_92 (by decide) ?_
      cases hf
    have hf := (if_neg h_3).symm.trans hf
    by_cases h_4 : v1 = 4
    · have hf := (if_pos h_4).symm.trans hf
      refine xk_ti (y := 4) h_4 ?_
      refine lv_tableIn (tgt := 97) hx hb dn_C_count_24 (by decide) (by decide) rfl (by decide) ?_
      refine lv_aload_n hx hb dn_C_count_97 rfl (lv_at hl 0 rfl) ?_
      refine va_get (D := (dC, dI)) (ci := 10) (v := .int ((s.1 360 0))) (C := rn_Design) (T := fn_Design) (N := 16) hx hb hg in_Design hown hK hP 13 rfl rfl 5 (by decide) (hg _ wn_3_14) (fun _ h9 => h9) rfl dn_C_count_98 ?_
      cases hf
    have hf := (if_neg h_4).symm.trans hf
    by_cases h_5 : v1 = 5
    · have hf := (if_pos h_5).symm.trans hf
      refine xk_ti (y := 5) h_5 ?_
      refine lv_tableIn (tgt := 102) hx hb dn_C_count_24 (by decide) (by decide) rfl (by decide) ?_
      refine lv_aload_n hx hb dn_C_count_102 rfl (lv_at hl 0 rfl) ?_
      refine lv_iconst (v := 3) hx hb dn_C_count_103 (by decide) ?_
      cases hf
    have hf := (if_neg h_5).symm.trans hf
    by_cases h_6 : v1 = 6
    · have hf := (if_pos h_6).symm.trans hf
      refine xk_ti (y := 6) h_6 ?_
      refine lv_tableIn (tgt := 108) hx hb dn_C_count_24 (by decide) (by decide) rfl (by decide) ?_
      refine lv_aload_n hx hb dn_C_count_108 rfl (lv_at hl 0 rfl) ?_
      refine lv_iconst (v := 4) hx hb dn_C_count_109 (by decide) ?_
      cases hf
    have hf := (if_neg h_6).symm.trans hf
    refine lv_tableOut (tgt := 114) hx hb dn_C_count_24 (dc_out (fun k h1 h2 => by rcases (show k = 0 ∨ k = 1 ∨ k = 2 ∨ k = 3 ∨ k = 4 ∨ k = 5 ∨ k = 6 by omega) with rfl | rfl | rfl | rfl | rfl | rfl | rfl <;> first | exact lv_neT h_0 (by decide) | exact lv_neT h_1 (by decide) | exact lv_neT h_2 (by decide) | exact lv_neT h_3 (by decide) | exact lv_neT h_4 (by decide) | exact lv_neT h_5 (by decide) | exact lv_neT h_6 (by decide)) (by decide)) (by decide) ?_
    rw [hQQ, ← Option.some.inj hf]
    exact xk_throw (cls := "java/lang/IllegalArgumentException") (names := ["java/lang/RuntimeException", "java/lang/Exception"]) hx hb hlt hown hg hst (by rw [hml]; exact hl.1) hlocks hex (by decide +kernel) (by decide +kernel) wn_7_105 wn_1_18 xa_C_84 (Nat.le_of_ble_eq_true rfl) (Nat.le_of_ble_eq_true rfl) (Nat.le_of_ble_eq_true rfl) (Nat.le_of_ble_eq_true rfl) dn_C_count_114 dn_C_count_117 dn_C_count_118 dn_C_count_121
  · have hf := (if_pos h).symm.trans hf
    rw [hQQ, ← Option.some.inj hf]
    exact xk_throw (cls := "java/lang/IllegalStateException") (names := ["java/lang/RuntimeException", "java/lang/Exception"]) hx hb hlt hown hg hst (by rw [hml]; exact hl.1) hlocks hex (by decide +kernel) (by decide +kernel) wn_7_128 wn_1_26 xa_C_142 (Nat.le_of_ble_eq_true rfl) (Nat.le_of_ble_eq_true rfl) (Nat.le_of_ble_eq_true rfl) (Nat.le_of_ble_eq_true rfl) dn_C_count_7 dn_C_count_10 dn_C_count_11 dn_C_count_14
set_option maxHeartbeats 8000000 in
set_option maxRecDepth 100000 in
theorem tc_C_find_C (l : Launch) (hlt : l.stackTraces = false) (dC : Nat → ClassId) (dI : Nat → Nat → Nat) (cI cB cJ cZ cQ : ClassId) (N sz : Nat) (a : Nat → Nat) (v : Nat → Value) (s : ms) (y : Nat) (hf : tx_C_find_C N s = some y) : xc_Met l yn_C_find (xw yn_C_find bn_C_find 2 (some .int)) ({ frames := 6, cells := 1, slots := 6, locals := 100 }) (xk_PX (dC, dI) xcl (xt cI cB cJ cZ cQ) [.ref ((a 100))] sz (wC a v cI cB cJ cZ cQ s)) (xk_X (exn y)) 1 6 (fun _ => False) := by
  refine tx_of (by decide) (Nat.le_of_ble_eq_true rfl) ?_
  intro p e s0 m below meth c hx hb hml hown hg hr hlocks hex hst hP hK hN hD ls hl
  have hown : s0.vm.findClass rn_C = some m.cls := hown
  suffices kk : ∀ QQ : State → Prop, QQ = xc_MQ below (xk_X (exn y)) [.ref ((a 100))].toArray s0 1 6 (fun _ => False) → ∀ ls : Array Slot, va_P (dC, dI) xcl (wC a v cI cB cJ cZ cQ s) s0.heap → va_D (fun _ => True) (wC a v cI cB cJ cZ cQ s) → lv_has ls 2 [(0, .ref ((a 100)))] → W p l e ({ frames := 6, cells := 1, slots := 6, locals := 100 }) s0 m [.ref ((a 100))].toArray below meth c s0.heap [] 0 0 QQ (F0 m 0 ls []) by
    exact kk _ rfl ls hP hD hl
  clear hP hD hl ls
  intro QQ hQQ
  intro ls hP hD hl
  unfold tx_C_find_C at hf
  refine lv_aload_n hx hb dn_C_find_0 rfl (lv_at hl 0 rfl) ?_
  refine va_get (D := (dC, dI)) (ci := 1) (v := .int ((s.1 208 0))) (C := rn_C) (T := fn_C) (N := 11) hx hb hg in_C hown hK hP 0 rfl rfl 8 (by decide) (hg _ wn_3_133) (fun _ h9 => h9) rfl dn_C_find_1 ?_
  refine lv_if_ne (tgt := 15) hx hb dn_C_find_4 (by decide) (fun h => ?_) (fun h => ?_)
  · have hf := (if_neg h).symm.trans hf
    refine lv_aload_n hx hb dn_C_find_15 rfl (lv_at hl 0 rfl) ?_
    refine va_get (D := (dC, dI)) (ci := 1) (v := .ref ((a 112))) (C := rn_C) (T := fn_C) (N := 11) hx hb hg in_C hown hK hP 0 rfl rfl 9 (by decide) (hg _ wn_3_134) (fun _ h9 => h9) rfl dn_C_find_16 ?_
    refine lv_aload_n hx hb dn_C_find_19 rfl (lv_at hl 0 rfl) ?_
    refine va_get (D := (dC, dI)) (ci := 1) (v := .ref ((a 108))) (C := rn_C) (T := fn_C) (N := 11) hx hb hg in_C hown hK hP 0 rfl rfl 10 (by decide) (hg _ wn_3_135) (fun _ h9 => h9) rfl dn_C_find_20 ?_
    refine va_get (D := (dC, dI)) (ci := 9) (v := .ref ((a 109))) (C := rn_Circuit) (T := fn_Circuit) (N := 14) hx hb hg in_Circuit hown hK hP 8 rfl rfl 0 (by decide) (hg _ wn_3_62) (fun _ h9 => h9) rfl dn_C_find_23 ?_
    refine va_get (D := (dC, dI)) (ci := 10) (v := .ref ((a 307))) (C := rn_Design) (T := fn_Design) (N := 16) hx hb hg in_Design hown hK hP 9 rfl rfl 2 (by decide) (hg _ wn_3_6) (fun _ h9 => h9) rfl dn_C_find_26 ?_
    refine lv_aload_n hx hb dn_C_find_29 rfl (lv_at hl 0 rfl) ?_
    refine va_get (D := (dC, dI)) (ci := 1) (v := .int ((s.1 200 0))) (C := rn_C) (T := fn_C) (N := 11) hx hb hg in_C hown hK hP 0 rfl rfl 0 (by decide) (hg _ wn_3_125) (fun _ h9 => h9) rfl dn_C_find_30 ?_
    cases hf
  · have hf := (if_pos h).symm.trans hf
    rw [hQQ, ← Option.some.inj hf]
    exact xk_throw (cls := "java/lang/IllegalStateException") (names := ["java/lang/RuntimeException", "java/lang/Exception"]) hx hb hlt hown hg hst (by rw [hml]; exact hl.1) hlocks hex (by decide +kernel) (by decide +kernel) wn_7_128 wn_1_26 xa_C_142 (Nat.le_of_ble_eq_true rfl) (Nat.le_of_ble_eq_true rfl) (Nat.le_of_ble_eq_true rfl) (Nat.le_of_ble_eq_true rfl) dn_C_find_7 dn_C_find_10 dn_C_find_11 dn_C_find_14
theorem id_Circuit_isSignal_Cc (N : Nat) (v1 : Int32) (s : ms) (y : (Int32 × ms)) (hf : fn_Circuit_isSignal_Cc N v1 s = some y) : y.2 = s := by
  unfold fn_Circuit_isSignal_Cc at hf
  have hm : s = s := rfl
  by_cases h : v1 < 0
  · have hf := (if_pos h).symm.trans hf
    exact (dc_e2 hf).trans hm
  · have hf := (if_neg h).symm.trans hf
    by_cases h : (s.1 343 0) ≤ v1
    · have hf := (if_pos h).symm.trans hf
      exact (dc_e2 hf).trans hm
    · have hf := (if_neg h).symm.trans hf
      exact (dc_e2 hf).trans hm
set_option maxHeartbeats 8000000 in
set_option maxRecDepth 100000 in
theorem ro_Circuit_isSignal_Cc (l : Launch) (dC : Nat → ClassId) (dI : Nat → Nat → Nat) (cI cB cJ cZ cQ : ClassId) (N sz : Nat) (a : Nat → Nat) (v : Nat → Value) (v1 : Int32) (s : ms) (y : (Int32 × ms)) (hf : fn_Circuit_isSignal_Cc N v1 s = some y) : Met l yn_Circuit_isSignal (xw yn_Circuit_isSignal bn_Circuit_isSignal 2 (some .boolean)) ({ frames := 0, cells := 0, slots := 0, locals := 0 }) (xk_P (dC, dI) xcl (xt cI cB cJ cZ cQ) [.ref ((a 112)), .int v1] sz (wC a v cI cB cJ cZ cQ s)) (ro_Qi y.1) 0 0 (fun _ => False) := by
  refine ro_of (by decide) (Nat.le_of_ble_eq_true rfl) ?_
  intro p e s0 m below meth c hx hb hml hown hg hr hlocks hP hK hN hD ls hl
  have hown : s0.vm.findClass rn_Circuit = some m.cls := hown
  suffices kk : ∀ QQ : State → Prop, QQ = MQ below (ro_Qi y.1) [.ref ((a 112)), .int v1].toArray s0 0 0 (fun _ => False) → ∀ ls : Array Slot, va_P (dC, dI) xcl (wC a v cI cB cJ cZ cQ s) s0.heap → va_D (fun _ => True) (wC a v cI cB cJ cZ cQ s) → lv_has ls 2 [(0, .ref ((a 112))), (1, .int v1)] → W p l e ({ frames := 0, cells := 0, slots := 0, locals := 0 }) s0 m [.ref ((a 112)), .int v1].toArray below meth c s0.heap [] 0 0 QQ (F0 m 0 ls []) by
    exact kk _ rfl ls hP hD hl
  clear hP hD hl ls
  intro QQ hQQ
  intro ls hP hD hl
  unfold fn_Circuit_isSignal_Cc at hf
  refine lv_iload_n hx hb dn_Circuit_isSignal_0 rfl (lv_at hl 1 rfl) ?_
  refine lv_if_lt (tgt := 16) hx hb dn_Circuit_isSignal_1 (by decide) (fun h => ?_) (fun h => ?_)
  · have hf := (if_pos h).symm.trans hf
    refine lv_iconst (v := 0) hx hb dn_Circuit_isSignal_16 (by decide) ?_
    rw [hQQ, ← Option.some.inj hf]
    exact ro_zret hx hb hr rfl hlocks dn_Circuit_isSignal_17 rfl
  · have hf := (if_neg h).symm.trans hf
    refine lv_iload_n hx hb dn_Circuit_isSignal_4 rfl (lv_at hl 1 rfl) ?_
    refine lv_aload_n hx hb dn_Circuit_isSignal_5 rfl (lv_at hl 0 rfl) ?_
    refine va_get (D := (dC, dI)) (ci := 9) (v := .int ((s.1 343 0))) (C := rn_Circuit) (T := fn_Circuit) (N := 14) hx hb hg in_Circuit hown hK hP 12 rfl rfl 2 (by decide) (hg _ wn_3_70) (fun _ h9 => h9) rfl dn_Circuit_isSignal_6 ?_
    refine lv_icmp_ge (tgt := 16) hx hb dn_Circuit_isSignal_9 (by decide) (fun h => ?_) (fun h => ?_)
    · have hf := (if_pos h).symm.trans hf
      refine lv_iconst (v := 0) hx hb dn_Circuit_isSignal_16 (by decide) ?_
      rw [hQQ, ← Option.some.inj hf]
      exact ro_zret hx hb hr rfl hlocks dn_Circuit_isSignal_17 rfl
    · have hf := (if_neg h).symm.trans hf
      refine lv_iconst (v := 1) hx hb dn_Circuit_isSignal_12 (by decide) ?_
      refine lv_goto (tgt := 17) hx hb dn_Circuit_isSignal_13 (by decide) ?_
      rw [hQQ, ← Option.some.inj hf]
      exact ro_zret hx hb hr rfl hlocks dn_Circuit_isSignal_17 rfl
theorem id_Circuit_widthOf_Cc (N : Nat) (v1 : Int32) (s : ms) (y : (Int32 × ms)) (hf : fn_Circuit_widthOf_Cc N v1 s = some y) : y.2 = s := by
  unfold fn_Circuit_widthOf_Cc at hf
  have hm : s = s := rfl
  obtain ⟨q_1, hc_2, hf⟩ := dc_b hf
  have hm := (id_Circuit_isSignal_Cc N v1 s q_1 hc_2).trans hm
  by_cases h : q_1.1 = 0
  · have hf := (if_pos h).symm.trans hf
    exact (dc_e2 hf).trans hm
  · have hf := (if_neg h).symm.trans hf
    obtain ⟨_, hf⟩ := dc_g hf
    obtain ⟨_, hf⟩ := dc_g hf
    exact (dc_e2 hf).trans hm
set_option maxHeartbeats 8000000 in
set_option maxRecDepth 100000 in
theorem ro_Circuit_widthOf_Cc (l : Launch) (dC : Nat → ClassId) (dI : Nat → Nat → Nat) (cI cB cJ cZ cQ : ClassId) (N sz : Nat) (a : Nat → Nat) (v : Nat → Value) (v1 : Int32) (s : ms) (y : (Int32 × ms)) (hf : fn_Circuit_widthOf_Cc N v1 s = some y) : Met l yn_Circuit_widthOf (xw yn_Circuit_widthOf bn_Circuit_widthOf 2 (some .int)) ({ frames := 1, cells := 0, slots := 0, locals := 21 }) (xk_P (dC, dI) xcl (xt cI cB cJ cZ cQ) [.ref ((a 112)), .int v1] sz (wC a v cI cB cJ cZ cQ s)) (ro_Qi y.1) 0 0 (fun _ => False) := by
  refine ro_of (by decide) (Nat.le_of_ble_eq_true rfl) ?_
  intro p e s0 m below meth c hx hb hml hown hg hr hlocks hP hK hN hD ls hl
  have hown : s0.vm.findClass rn_Circuit = some m.cls := hown
  suffices kk : ∀ QQ : State → Prop, QQ = MQ below (ro_Qi y.1) [.ref ((a 112)), .int v1].toArray s0 0 0 (fun _ => False) → ∀ ls : Array Slot, va_P (dC, dI) xcl (wC a v cI cB cJ cZ cQ s) s0.heap → va_D (fun _ => True) (wC a v cI cB cJ cZ cQ s) → lv_has ls 2 [(0, .ref ((a 112))), (1, .int v1)] → W p l e ({ frames := 1, cells := 0, slots := 0, locals := 21 }) s0 m [.ref ((a 112)), .int v1].toArray below meth c s0.heap [] 0 0 QQ (F0 m 0 ls []) by
    exact kk _ rfl ls hP hD hl
  clear hP hD hl ls
  intro QQ hQQ
  intro ls hP hD hl
  unfold fn_Circuit_widthOf_Cc at hf
  refine lv_aload_n hx hb dn_Circuit_widthOf_0 rfl (lv_at hl 0 rfl) ?_
  refine lv_iload_n hx hb dn_Circuit_widthOf_1 rfl (lv_at hl 1 rfl) ?_
  obtain ⟨q_1, hc_2, hf⟩ := dc_b hf
  refine ro_calli (ro_runV (ar := 1) (As := [.int v1]) (rest := []) (ci := 9) (q0 := 12) ⟨hx, hb, hml, hown, hg⟩ hK hN (ro_Circuit_isSignal_Cc l dC dI cI cB cJ cZ cQ N s0.heap.size a v v1 s q_1 hc_2) hP hD rfl rfl wn_6_207 wn_6_209 sn_Circuit_isSignal wn_1_9 wn_6_210 rfl rfl (by decide +kernel) ⟨Nat.le_of_ble_eq_true rfl, Nat.le_of_ble_eq_true rfl⟩ rfl hl.1 rfl (Nat.le_of_ble_eq_true rfl) dn_Circuit_widthOf_2 ⟨Nat.le_of_ble_eq_true rfl, Nat.le_of_ble_eq_true rfl⟩) ?_
  have hq_3 := id_Circuit_isSignal_Cc N v1 s q_1 hc_2
  have hP : va_P (dC, dI) xcl (wC a v cI cB cJ cZ cQ q_1.2) s0.heap := by rw [hq_3]; exact hP
  have hD : va_D (fun _ => True) (wC a v cI cB cJ cZ cQ q_1.2) := by rw [hq_3]; exact hD
  refine lv_if_eq (tgt := 28) hx hb dn_Circuit_widthOf_5 (by decide) (fun h => ?_) (fun h => ?_)
  · have hf := (if_pos h).symm.trans hf
    refine lv_iconst (v := 1) hx hb dn_Circuit_widthOf_28 (by decide) ?_
    rw [hQQ, ← Option.some.inj hf]
    exact ro_iret hx hb hr hlocks dn_Circuit_widthOf_29 rfl
  · have hf := (if_neg h).symm.trans hf
    refine lv_aload_n hx hb dn_Circuit_widthOf_8 rfl (lv_at hl 0 rfl) ?_
    refine va_get (D := (dC, dI)) (ci := 9) (v := .ref ((a 113))) (C := rn_Circuit) (T := fn_Circuit) (N := 14) hx hb hg in_Circuit hown hK hP 12 rfl rfl 0 (by decide) (hg _ wn_3_61) (fun _ h9 => h9) rfl dn_Circuit_widthOf_9 ?_
    refine va_get (D := (dC, dI)) (ci := 10) (v := .ref ((a 114))) (C := rn_Design) (T := fn_Design) (N := 16) hx hb hg in_Design hown hK hP 13 rfl rfl 0 (by decide) (hg _ wn_2_237) (fun _ h9 => h9) rfl dn_Circuit_widthOf_12 ?_
    refine va_get (D := (dC, dI)) (ci := 11) (v := .ref ((a 373))) (C := rn_Parts) (T := fn_Parts) (N := 15) hx hb hg in_Parts hown hK hP 14 rfl rfl 2 (by decide) (hg _ wn_2_132) (fun _ h9 => h9) rfl dn_Circuit_widthOf_15 ?_
    refine lv_aload_n hx hb dn_Circuit_widthOf_18 rfl (lv_at hl 0 rfl) ?_
    refine va_get (D := (dC, dI)) (ci := 9) (v := .ref ((a 348))) (C := rn_Circuit) (T := fn_Circuit) (N := 14) hx hb hg in_Circuit hown hK hP 12 rfl rfl 7 (by decide) (hg _ wn_3_78) (fun _ h9 => h9) rfl dn_Circuit_widthOf_19 ?_
    refine lv_iload_n hx hb dn_Circuit_widthOf_22 rfl (lv_at hl 1 rfl) ?_
    obtain ⟨hg_4, hf⟩ := dc_g hf
    refine va_iald hx hb hK hP 80 0 rfl rfl hg_4 dn_Circuit_widthOf_23 ?_
    refine xk_ti (y := ((q_1.2.1 348) (Int32.toNatClampNeg v1))) rfl ?_
    obtain ⟨hg_5, hf⟩ := dc_g hf
    refine va_iald hx hb hK hP 96 0 rfl rfl hg_5 dn_Circuit_widthOf_24 ?_
    refine xk_ti (y := ((q_1.2.1 373) (Int32.toNatClampNeg (((q_1.2.1 348) (Int32.toNatClampNeg v1)))))) rfl ?_
    refine lv_goto (tgt := 29) hx hb dn_Circuit_widthOf_25 (by decide) ?_
    rw [hQQ, ← Option.some.inj hf]
    exact ro_iret hx hb hr hlocks dn_Circuit_widthOf_29 rfl
theorem id_Design_isModule_Dc (N : Nat) (v1 : Int32) (s : ms) (y : (Int32 × ms)) (hf : fn_Design_isModule_Dc N v1 s = some y) : y.2 = s := by
  unfold fn_Design_isModule_Dc at hf
  have hm : s = s := rfl
  by_cases h : v1 < 0
  · have hf := (if_pos h).symm.trans hf
    exact (dc_e2 hf).trans hm
  · have hf := (if_neg h).symm.trans hf
    by_cases h : (s.1 359 0) ≤ v1
    · have hf := (if_pos h).symm.trans hf
      exact (dc_e2 hf).trans hm
    · have hf := (if_neg h).symm.trans hf
      exact (dc_e2 hf).trans hm
set_option maxHeartbeats 8000000 in
set_option maxRecDepth 100000 in
theorem ro_Design_isModule_Dc (l : Launch) (dC : Nat → ClassId) (dI : Nat → Nat → Nat) (cI cB cJ cZ cQ : ClassId) (N sz : Nat) (a : Nat → Nat) (v : Nat → Value) (v1 : Int32) (s : ms) (y : (Int32 × ms)) (hf : fn_Design_isModule_Dc N v1 s = some y) : Met l yn_Design_isModule (xw yn_Design_isModule bn_Design_isModule 2 (some .boolean)) ({ frames := 0, cells := 0, slots := 0, locals := 0 }) (xk_P (dC, dI) xcl (xt cI cB cJ cZ cQ) [.ref ((a 113)), .int v1] sz (wC a v cI cB cJ cZ cQ s)) (ro_Qi y.1) 0 0 (fun _ => False) := by
  refine ro_of (by decide) (Nat.le_of_ble_eq_true rfl) ?_
  intro p e s0 m below meth c hx hb hml hown hg hr hlocks hP hK hN hD ls hl
  have hown : s0.vm.findClass rn_Design = some m.cls := hown
  suffices kk : ∀ QQ : State → Prop, QQ = MQ below (ro_Qi y.1) [.ref ((a 113)), .int v1].toArray s0 0 0 (fun _ => False) → ∀ ls : Array Slot, va_P (dC, dI) xcl (wC a v cI cB cJ cZ cQ s) s0.heap → va_D (fun _ => True) (wC a v cI cB cJ cZ cQ s) → lv_has ls 2 [(0, .ref ((a 113))), (1, .int v1)] → W p l e ({ frames := 0, cells := 0, slots := 0, locals := 0 }) s0 m [.ref ((a 113)), .int v1].toArray below meth c s0.heap [] 0 0 QQ (F0 m 0 ls []) by
    exact kk _ rfl ls hP hD hl
  clear hP hD hl ls
  intro QQ hQQ
  intro ls hP hD hl
  unfold fn_Design_isModule_Dc at hf
  refine lv_iload_n hx hb dn_Design_isModule_0 rfl (lv_at hl 1 rfl) ?_
  refine lv_if_lt (tgt := 16) hx hb dn_Design_isModule_1 (by decide) (fun h => ?_) (fun h => ?_)
  · have hf := (if_pos h).symm.trans hf
    refine lv_iconst (v := 0) hx hb dn_Design_isModule_16 (by decide) ?_
    rw [hQQ, ← Option.some.inj hf]
    exact ro_zret hx hb hr rfl hlocks dn_Design_isModule_17 rfl
  · have hf := (if_neg h).symm.trans hf
    refine lv_iload_n hx hb dn_Design_isModule_4 rfl (lv_at hl 1 rfl) ?_
    refine lv_aload_n hx hb dn_Design_isModule_5 rfl (lv_at hl 0 rfl) ?_
    refine va_get (D := (dC, dI)) (ci := 10) (v := .int ((s.1 359 0))) (C := rn_Design) (T := fn_Design) (N := 16) hx hb hg in_Design hown hK hP 13 rfl rfl 4 (by decide) (hg _ wn_3_10) (fun _ h9 => h9) rfl dn_Design_isModule_6 ?_
    refine lv_icmp_ge (tgt := 16) hx hb dn_Design_isModule_9 (by decide) (fun h => ?_) (fun h => ?_)
    · have hf := (if_pos h).symm.trans hf
      refine lv_iconst (v := 0) hx hb dn_Design_isModule_16 (by decide) ?_
      rw [hQQ, ← Option.some.inj hf]
      exact ro_zret hx hb hr rfl hlocks dn_Design_isModule_17 rfl
    · have hf := (if_neg h).symm.trans hf
      refine lv_iconst (v := 1) hx hb dn_Design_isModule_12 (by decide) ?_
      refine lv_goto (tgt := 17) hx hb dn_Design_isModule_13 (by decide) ?_
      rw [hQQ, ← Option.some.inj hf]
      exact ro_zret hx hb hr rfl hlocks dn_Design_isModule_17 rfl
theorem id_Design_firstDecl_Dc (N : Nat) (v1 : Int32) (s : ms) (y : (Int32 × ms)) (hf : fn_Design_firstDecl_Dc N v1 s = some y) : y.2 = s := by
  unfold fn_Design_firstDecl_Dc at hf
  have hm : s = s := rfl
  obtain ⟨q_1, hc_2, hf⟩ := dc_b hf
  have hm := (id_Design_isModule_Dc N v1 s q_1 hc_2).trans hm
  by_cases h : q_1.1 = 0
  · have hf := (if_pos h).symm.trans hf
    exact (dc_e2 hf).trans hm
  · have hf := (if_neg h).symm.trans hf
    obtain ⟨_, hf⟩ := dc_g hf
    exact (dc_e2 hf).trans hm
set_option maxHeartbeats 8000000 in
set_option maxRecDepth 100000 in
theorem ro_Design_firstDecl_Dc (l : Launch) (dC : Nat → ClassId) (dI : Nat → Nat → Nat) (cI cB cJ cZ cQ : ClassId) (N sz : Nat) (a : Nat → Nat) (v : Nat → Value) (v1 : Int32) (s : ms) (y : (Int32 × ms)) (hf : fn_Design_firstDecl_Dc N v1 s = some y) : Met l yn_Design_firstDecl (xw yn_Design_firstDecl bn_Design_firstDecl 2 (some .int)) ({ frames := 1, cells := 0, slots := 0, locals := 21 }) (xk_P (dC, dI) xcl (xt cI cB cJ cZ cQ) [.ref ((a 113)), .int v1] sz (wC a v cI cB cJ cZ cQ s)) (ro_Qi y.1) 0 0 (fun _ => False) := by
  refine ro_of (by decide) (Nat.le_of_ble_eq_true rfl) ?_
  intro p e s0 m below meth c hx hb hml hown hg hr hlocks hP hK hN hD ls hl
  have hown : s0.vm.findClass rn_Design = some m.cls := hown
  suffices kk : ∀ QQ : State → Prop, QQ = MQ below (ro_Qi y.1) [.ref ((a 113)), .int v1].toArray s0 0 0 (fun _ => False) → ∀ ls : Array Slot, va_P (dC, dI) xcl (wC a v cI cB cJ cZ cQ s) s0.heap → va_D (fun _ => True) (wC a v cI cB cJ cZ cQ s) → lv_has ls 2 [(0, .ref ((a 113))), (1, .int v1)] → W p l e ({ frames := 1, cells := 0, slots := 0, locals := 21 }) s0 m [.ref ((a 113)), .int v1].toArray below meth c s0.heap [] 0 0 QQ (F0 m 0 ls []) by
    exact kk _ rfl ls hP hD hl
  clear hP hD hl ls
  intro QQ hQQ
  intro ls hP hD hl
  unfold fn_Design_firstDecl_Dc at hf
  refine lv_aload_n hx hb dn_Design_firstDecl_0 rfl (lv_at hl 0 rfl) ?_
  refine lv_iload_n hx hb dn_Design_firstDecl_1 rfl (lv_at hl 1 rfl) ?_
  obtain ⟨q_1, hc_2, hf⟩ := dc_b hf
  refine ro_calli (ro_runV (ar := 1) (As := [.int v1]) (rest := []) (ci := 10) (q0 := 13) ⟨hx, hb, hml, hown, hg⟩ hK hN (ro_Design_isModule_Dc l dC dI cI cB cJ cZ cQ N s0.heap.size a v v1 s q_1 hc_2) hP hD rfl rfl wn_5_91 wn_5_93 sn_Design_isModule wn_1_10 wn_5_94 rfl rfl (by decide +kernel) ⟨Nat.le_of_ble_eq_true rfl, Nat.le_of_ble_eq_true rfl⟩ rfl hl.1 rfl (Nat.le_of_ble_eq_true rfl) dn_Design_firstDecl_2 ⟨Nat.le_of_ble_eq_true rfl, Nat.le_of_ble_eq_true rfl⟩) ?_
  have hq_3 := id_Design_isModule_Dc N v1 s q_1 hc_2
  have hP : va_P (dC, dI) xcl (wC a v cI cB cJ cZ cQ q_1.2) s0.heap := by rw [hq_3]; exact hP
  have hD : va_D (fun _ => True) (wC a v cI cB cJ cZ cQ q_1.2) := by rw [hq_3]; exact hD
  refine lv_if_eq (tgt := 17) hx hb dn_Design_firstDecl_5 (by decide) (fun h => ?_) (fun h => ?_)
  · have hf := (if_pos h).symm.trans hf
    refine lv_aload_n hx hb dn_Design_firstDecl_17 rfl (lv_at hl 0 rfl) ?_
    refine va_get (D := (dC, dI)) (ci := 10) (v := .ref ((a 114))) (C := rn_Design) (T := fn_Design) (N := 16) hx hb hg in_Design hown hK hP 13 rfl rfl 0 (by decide) (hg _ wn_2_234) (fun _ h9 => h9) rfl dn_Design_firstDecl_18 ?_
    refine va_get (D := (dC, dI)) (ci := 11) (v := .int ((q_1.2.1 371 0))) (C := rn_Parts) (T := fn_Parts) (N := 15) hx hb hg in_Parts hown hK hP 14 rfl rfl 0 (by decide) (hg _ wn_2_124) (fun _ h9 => h9) rfl dn_Design_firstDecl_21 ?_
    rw [hQQ, ← Option.some.inj hf]
    exact ro_iret hx hb hr hlocks dn_Design_firstDecl_24 rfl
  · have hf := (if_neg h).symm.trans hf
    refine lv_aload_n hx hb dn_Design_firstDecl_8 rfl (lv_at hl 0 rfl) ?_
    refine va_get (D := (dC, dI)) (ci := 10) (v := .ref ((a 362))) (C := rn_Design) (T := fn_Design) (N := 16) hx hb hg in_Design hown hK hP 13 rfl rfl 7 (by decide) (hg _ wn_3_16) (fun _ h9 => h9) rfl dn_Design_firstDecl_9 ?_
    refine lv_iload_n hx hb dn_Design_firstDecl_12 rfl (lv_at hl 1 rfl) ?_
    obtain ⟨hg_4, hf⟩ := dc_g hf
    refine va_iald hx hb hK hP 88 0 rfl rfl hg_4 dn_Design_firstDecl_13 ?_
    refine xk_ti (y := ((q_1.2.1 362) (Int32.toNatClampNeg v1))) rfl ?_
    refine lv_goto (tgt := 24) hx hb dn_Design_firstDecl_14 (by decide) ?_
    rw [hQQ, ← Option.some.inj hf]
    exact ro_iret hx hb hr hlocks dn_Design_firstDecl_24 rfl
theorem id_Circuit_ownSignals_Cc (N : Nat) (v1 : Int32) (s : ms) (y : (Int32 × ms)) (hf : fn_Circuit_ownSignals_Cc N v1 s = some y) : y.2 = s := by
  unfold fn_Circuit_ownSignals_Cc at hf
  have hm : s = s := rfl
  obtain ⟨q_1, hc_2, hf⟩ := dc_b hf
  have hm := (id_Design_firstDecl_Dc N ((v1 + 1)) s q_1 hc_2).trans hm
  obtain ⟨q_4, hc_5, hf⟩ := dc_b hf
  have hm := (id_Design_firstDecl_Dc N v1 q_1.2 q_4 hc_5).trans hm
  exact (dc_e2 hf).trans hm
set_option maxHeartbeats 8000000 in
set_option maxRecDepth 100000 in
theorem ro_Circuit_ownSignals_Cc (l : Launch) (dC : Nat → ClassId) (dI : Nat → Nat → Nat) (cI cB cJ cZ cQ : ClassId) (N sz : Nat) (a : Nat → Nat) (v : Nat → Value) (v1 : Int32) (s : ms) (y : (Int32 × ms)) (hf : fn_Circuit_ownSignals_Cc N v1 s = some y) : Met l yn_Circuit_ownSignals (xw yn_Circuit_ownSignals bn_Circuit_ownSignals 2 (some .int)) ({ frames := 2, cells := 0, slots := 0, locals := 42 }) (xk_P (dC, dI) xcl (xt cI cB cJ cZ cQ) [.ref ((a 112)), .int v1] sz (wC a v cI cB cJ cZ cQ s)) (ro_Qi y.1) 0 0 (fun _ => False) := by
  refine ro_of (by decide) (Nat.le_of_ble_eq_true rfl) ?_
  intro p e s0 m below meth c hx hb hml hown hg hr hlocks hP hK hN hD ls hl
  have hown : s0.vm.findClass rn_Circuit = some m.cls := hown
  suffices kk : ∀ QQ : State → Prop, QQ = MQ below (ro_Qi y.1) [.ref ((a 112)), .int v1].toArray s0 0 0 (fun _ => False) → ∀ ls : Array Slot, va_P (dC, dI) xcl (wC a v cI cB cJ cZ cQ s) s0.heap → va_D (fun _ => True) (wC a v cI cB cJ cZ cQ s) → lv_has ls 2 [(0, .ref ((a 112))), (1, .int v1)] → W p l e ({ frames := 2, cells := 0, slots := 0, locals := 42 }) s0 m [.ref ((a 112)), .int v1].toArray below meth c s0.heap [] 0 0 QQ (F0 m 0 ls []) by
    exact kk _ rfl ls hP hD hl
  clear hP hD hl ls
  intro QQ hQQ
  intro ls hP hD hl
  unfold fn_Circuit_ownSignals_Cc at hf
  refine lv_aload_n hx hb dn_Circuit_ownSignals_0 rfl (lv_at hl 0 rfl) ?_
  refine va_get (D := (dC, dI)) (ci := 9) (v := .ref ((a 113))) (C := rn_Circuit) (T := fn_Circuit) (N := 14) hx hb hg in_Circuit hown hK hP 12 rfl rfl 0 (by decide) (hg _ wn_3_61) (fun _ h9 => h9) rfl dn_Circuit_ownSignals_1 ?_
  refine lv_iload_n hx hb dn_Circuit_ownSignals_4 rfl (lv_at hl 1 rfl) ?_
  refine lv_iconst (v := 1) hx hb dn_Circuit_ownSignals_5 (by decide) ?_
  refine lv_iadd hx hb dn_Circuit_ownSignals_6 ?_
  obtain ⟨q_1, hc_2, hf⟩ := dc_b hf
  refine ro_calli (ro_runV (ar := 1) (As := [.int ((v1 + 1))]) (rest := []) (ci := 10) (q0 := 13) ⟨hx, hb, hml, hown, hg⟩ hK hN (ro_Design_firstDecl_Dc l dC dI cI cB cJ cZ cQ N s0.heap.size a v ((v1 + 1)) s q_1 hc_2) hP hD rfl rfl wn_6_189 wn_5_100 wn_5_101 wn_1_10 wn_5_102 rfl rfl (by decide +kernel) ⟨Nat.le_of_ble_eq_true rfl, Nat.le_of_ble_eq_true rfl⟩ rfl hl.1 rfl (Nat.le_of_ble_eq_true rfl) dn_Circuit_ownSignals_7 ⟨Nat.le_of_ble_eq_true rfl, Nat.le_of_ble_eq_true rfl⟩) ?_
  have hq_3 := id_Design_firstDecl_Dc N ((v1 + 1)) s q_1 hc_2
  have hP : va_P (dC, dI) xcl (wC a v cI cB cJ cZ cQ q_1.2) s0.heap := by rw [hq_3]; exact hP
  have hD : va_D (fun _ => True) (wC a v cI cB cJ cZ cQ q_1.2) := by rw [hq_3]; exact hD
  refine lv_aload_n hx hb dn_Circuit_ownSignals_10 rfl (lv_at hl 0 rfl) ?_
  refine va_get (D := (dC, dI)) (ci := 9) (v := .ref ((a 113))) (C := rn_Circuit) (T := fn_Circuit) (N := 14) hx hb hg in_Circuit hown hK hP 12 rfl rfl 0 (by decide) (hg _ wn_3_61) (fun _ h9 => h9) rfl dn_Circuit_ownSignals_11 ?_
  refine lv_iload_n hx hb dn_Circuit_ownSignals_14 rfl (lv_at hl 1 rfl) ?_
  obtain ⟨q_4, hc_5, hf⟩ := dc_b hf
  refine ro_calli (ro_runV (ar := 1) (As := [.int v1]) (rest := [.int q_1.1]) (ci := 10) (q0 := 13) ⟨hx, hb, hml, hown, hg⟩ hK hN (ro_Design_firstDecl_Dc l dC dI cI cB cJ cZ cQ N s0.heap.size a v v1 q_1.2 q_4 hc_5) hP hD rfl rfl wn_6_189 wn_5_100 wn_5_101 wn_1_10 wn_5_102 rfl rfl (by decide +kernel) ⟨Nat.le_of_ble_eq_true rfl, Nat.le_of_ble_eq_true rfl⟩ rfl hl.1 rfl (Nat.le_of_ble_eq_true rfl) dn_Circuit_ownSignals_15 ⟨Nat.le_of_ble_eq_true rfl, Nat.le_of_ble_eq_true rfl⟩) ?_
  have hq_6 := id_Design_firstDecl_Dc N v1 q_1.2 q_4 hc_5
  have hP : va_P (dC, dI) xcl (wC a v cI cB cJ cZ cQ q_4.2) s0.heap := by rw [hq_6]; exact hP
  have hD : va_D (fun _ => True) (wC a v cI cB cJ cZ cQ q_4.2) := by rw [hq_6]; exact hD
  refine lv_isub hx hb dn_Circuit_ownSignals_18 ?_
  rw [hQQ, ← Option.some.inj hf]
  exact ro_iret hx hb hr hlocks dn_Circuit_ownSignals_19 rfl
theorem id_Circuit_sortOf_Cc (N : Nat) (v1 : Int32) (s : ms) (y : (Int32 × ms)) (hf : fn_Circuit_sortOf_Cc N v1 s = some y) : y.2 = s := by
  unfold fn_Circuit_sortOf_Cc at hf
  have hm : s = s := rfl
  obtain ⟨q_1, hc_2, hf⟩ := dc_b hf
  have hm := (id_Circuit_isSignal_Cc N v1 s q_1 hc_2).trans hm
  by_cases h : q_1.1 = 0
  · have hf := (if_pos h).symm.trans hf
    exact (dc_e2 hf).trans hm
  · have hf := (if_neg h).symm.trans hf
    obtain ⟨_, hf⟩ := dc_g hf
    obtain ⟨_, hf⟩ := dc_g hf
    by_cases h : ((q_1.2.1 374) (Int32.toNatClampNeg (((q_1.2.1 348) (Int32.toNatClampNeg v1))))) = 0
    · have hf := (if_pos h).symm.trans hf
      obtain ⟨q_6, hc_7, hf⟩ := dc_b hf
      have hm := (id_Circuit_ownSignals_Cc N (((q_1.2.1 345) 0)) q_1.2 q_6 hc_7).trans hm
      by_cases h : v1 < q_6.1
      · have hf := (if_pos h).symm.trans hf
        exact (dc_e2 hf).trans hm
      · have hf := (if_neg h).symm.trans hf
        exact (dc_e2 hf).trans hm
    · have hf := (if_neg h).symm.trans hf
      exact (dc_e2 hf).trans hm
set_option maxHeartbeats 8000000 in
set_option maxRecDepth 100000 in
theorem ro_Circuit_sortOf_Cc (l : Launch) (dC : Nat → ClassId) (dI : Nat → Nat → Nat) (cI cB cJ cZ cQ : ClassId) (N sz : Nat) (a : Nat → Nat) (v : Nat → Value) (v1 : Int32) (s : ms) (y : (Int32 × ms)) (hf : fn_Circuit_sortOf_Cc N v1 s = some y) : Met l yn_Circuit_sortOf (xw yn_Circuit_sortOf bn_Circuit_sortOf 3 (some .int)) ({ frames := 3, cells := 0, slots := 0, locals := 63 }) (xk_P (dC, dI) xcl (xt cI cB cJ cZ cQ) [.ref ((a 112)), .int v1] sz (wC a v cI cB cJ cZ cQ s)) (ro_Qi y.1) 0 0 (fun _ => False) := by
  refine ro_of (by decide) (Nat.le_of_ble_eq_true rfl) ?_
  intro p e s0 m below meth c hx hb hml hown hg hr hlocks hP hK hN hD ls hl
  have hown : s0.vm.findClass rn_Circuit = some m.cls := hown
  suffices kk : ∀ QQ : State → Prop, QQ = MQ below (ro_Qi y.1) [.ref ((a 112)), .int v1].toArray s0 0 0 (fun _ => False) → ∀ ls : Array Slot, va_P (dC, dI) xcl (wC a v cI cB cJ cZ cQ s) s0.heap → va_D (fun _ => True) (wC a v cI cB cJ cZ cQ s) → lv_has ls 3 [(0, .ref ((a 112))), (1, .int v1)] → W p l e ({ frames := 3, cells := 0, slots := 0, locals := 63 }) s0 m [.ref ((a 112)), .int v1].toArray below meth c s0.heap [] 0 0 QQ (F0 m 0 ls []) by
    exact kk _ rfl ls hP hD hl
  clear hP hD hl ls
  intro QQ hQQ
  intro ls hP hD hl
  unfold fn_Circuit_sortOf_Cc at hf
  refine lv_aload_n hx hb dn_Circuit_sortOf_0 rfl (lv_at hl 0 rfl) ?_
  refine lv_iload_n hx hb dn_Circuit_sortOf_1 rfl (lv_at hl 1 rfl) ?_
  obtain ⟨q_1, hc_2, hf⟩ := dc_b hf
  refine ro_calli (ro_runV (ar := 1) (As := [.int v1]) (rest := []) (ci := 9) (q0 := 12) ⟨hx, hb, hml, hown, hg⟩ hK hN (ro_Circuit_isSignal_Cc l dC dI cI cB cJ cZ cQ N s0.heap.size a v v1 s q_1 hc_2) hP hD rfl rfl wn_6_207 wn_6_209 sn_Circuit_isSignal wn_1_9 wn_6_210 rfl rfl (by decide +kernel) ⟨Nat.le_of_ble_eq_true rfl, Nat.le_of_ble_eq_true rfl⟩ rfl hl.1 rfl (Nat.le_of_ble_eq_true rfl) dn_Circuit_sortOf_2 ⟨Nat.le_of_ble_eq_true rfl, Nat.le_of_ble_eq_true rfl⟩) ?_
  have hq_3 := id_Circuit_isSignal_Cc N v1 s q_1 hc_2
  have hP : va_P (dC, dI) xcl (wC a v cI cB cJ cZ cQ q_1.2) s0.heap := by rw [hq_3]; exact hP
  have hD : va_D (fun _ => True) (wC a v cI cB cJ cZ cQ q_1.2) := by rw [hq_3]; exact hD
  refine lv_if_ne (tgt := 10) hx hb dn_Circuit_sortOf_5 (by decide) (fun h => ?_) (fun h => ?_)
  · have hf := (if_neg h).symm.trans hf
    refine lv_aload_n hx hb dn_Circuit_sortOf_10 rfl (lv_at hl 0 rfl) ?_
    refine va_get (D := (dC, dI)) (ci := 9) (v := .ref ((a 113))) (C := rn_Circuit) (T := fn_Circuit) (N := 14) hx hb hg in_Circuit hown hK hP 12 rfl rfl 0 (by decide) (hg _ wn_3_61) (fun _ h9 => h9) rfl dn_Circuit_sortOf_11 ?_
    refine va_get (D := (dC, dI)) (ci := 10) (v := .ref ((a 114))) (C := rn_Design) (T := fn_Design) (N := 16) hx hb hg in_Design hown hK hP 13 rfl rfl 0 (by decide) (hg _ wn_2_237) (fun _ h9 => h9) rfl dn_Circuit_sortOf_14 ?_
    refine va_get (D := (dC, dI)) (ci := 11) (v := .ref ((a 374))) (C := rn_Parts) (T := fn_Parts) (N := 15) hx hb hg in_Parts hown hK hP 14 rfl rfl 3 (by decide) (hg _ wn_2_136) (fun _ h9 => h9) rfl dn_Circuit_sortOf_17 ?_
    refine lv_aload_n hx hb dn_Circuit_sortOf_20 rfl (lv_at hl 0 rfl) ?_
    refine va_get (D := (dC, dI)) (ci := 9) (v := .ref ((a 348))) (C := rn_Circuit) (T := fn_Circuit) (N := 14) hx hb hg in_Circuit hown hK hP 12 rfl rfl 7 (by decide) (hg _ wn_3_78) (fun _ h9 => h9) rfl dn_Circuit_sortOf_21 ?_
    refine lv_iload_n hx hb dn_Circuit_sortOf_24 rfl (lv_at hl 1 rfl) ?_
    obtain ⟨hg_4, hf⟩ := dc_g hf
    refine va_iald hx hb hK hP 80 0 rfl rfl hg_4 dn_Circuit_sortOf_25 ?_
    refine xk_ti (y := ((q_1.2.1 348) (Int32.toNatClampNeg v1))) rfl ?_
    obtain ⟨hg_5, hf⟩ := dc_g hf
    refine va_iald hx hb hK hP 97 0 rfl rfl hg_5 dn_Circuit_sortOf_26 ?_
    refine xk_ti (y := ((q_1.2.1 374) (Int32.toNatClampNeg (((q_1.2.1 348) (Int32.toNatClampNeg v1)))))) rfl ?_
    refine lv_istore_n (lv' := [(2, .int (((q_1.2.1 374) (Int32.toNatClampNeg (((q_1.2.1 348) (Int32.toNatClampNeg v1))))))), (0, .ref ((a 112))), (1, .int v1)]) hx hb dn_Circuit_sortOf_27 rfl hl (by decide) rfl (fun ls hl => ?_)
    refine lv_iload_n hx hb dn_Circuit_sortOf_28 rfl (lv_at hl 0 rfl) ?_
    refine lv_if_ne (tgt := 50) hx hb dn_Circuit_sortOf_29 (by decide) (fun h => ?_) (fun h => ?_)
    · have hf := (if_neg h).symm.trans hf
      refine lv_iload_n hx hb dn_Circuit_sortOf_50 rfl (lv_at hl 0 rfl) ?_
      rw [hQQ, ← Option.some.inj hf]
      exact ro_iret hx hb hr hlocks dn_Circuit_sortOf_51 rfl
    · have hf := (if_pos h).symm.trans hf
      refine lv_iload_n hx hb dn_Circuit_sortOf_32 rfl (lv_at hl 2 rfl) ?_
      refine lv_aload_n hx hb dn_Circuit_sortOf_33 rfl (lv_at hl 1 rfl) ?_
      refine lv_aload_n hx hb dn_Circuit_sortOf_34 rfl (lv_at hl 1 rfl) ?_
      refine va_get (D := (dC, dI)) (ci := 9) (v := .ref ((a 345))) (C := rn_Circuit) (T := fn_Circuit) (N := 14) hx hb hg in_Circuit hown hK hP 12 rfl rfl 4 (by decide) (hg _ wn_3_74) (fun _ h9 => h9) rfl dn_Circuit_sortOf_35 ?_
      refine lv_iconst (v := 0) hx hb dn_Circuit_sortOf_38 (by decide) ?_
      refine va_iald hx hb hK hP 77 0 rfl rfl (show ¬ (_ ∨ _) by decide) dn_Circuit_sortOf_39 ?_
      refine xk_ti (y := ((q_1.2.1 345) 0)) rfl ?_
      obtain ⟨q_6, hc_7, hf⟩ := dc_b hf
      refine ro_calli (ro_runV (ar := 1) (As := [.int (((q_1.2.1 345) 0))]) (rest := [.int v1]) (ci := 9) (q0 := 12) ⟨hx, hb, hml, hown, hg⟩ hK hN (ro_Circuit_ownSignals_Cc l dC dI cI cB cJ cZ cQ N s0.heap.size a v (((q_1.2.1 345) 0)) q_1.2 q_6 hc_7) hP hD rfl rfl wn_6_185 wn_6_187 sn_Circuit_ownSignals wn_1_9 wn_6_188 rfl rfl (by decide +kernel) ⟨Nat.le_of_ble_eq_true rfl, Nat.le_of_ble_eq_true rfl⟩ rfl hl.1 rfl (Nat.le_of_ble_eq_true rfl) dn_Circuit_sortOf_40 ⟨Nat.le_of_ble_eq_true rfl, Nat.le_of_ble_eq_true rfl⟩) ?_
      have hq_8 := id_Circuit_ownSignals_Cc N (((q_1.2.1 345) 0)) q_1.2 q_6 hc_7
      have hP : va_P (dC, dI) xcl (wC a v cI cB cJ cZ cQ q_6.2) s0.heap := by rw [hq_8]; exact hP
      have hD : va_D (fun _ => True) (wC a v cI cB cJ cZ cQ q_6.2) := by rw [hq_8]; exact hD
      refine lv_icmp_lt (tgt := 50) hx hb dn_Circuit_sortOf_43 (by decide) (fun h => ?_) (fun h => ?_)
      · have hf := (if_pos h).symm.trans hf
        refine lv_iload_n hx hb dn_Circuit_sortOf_50 rfl (lv_at hl 0 rfl) ?_
        rw [hQQ, ← Option.some.inj hf]
        exact ro_iret hx hb hr hlocks dn_Circuit_sortOf_51 rfl
      · have hf := (if_neg h).symm.trans hf
        refine lv_iconst (v := 1) hx hb dn_Circuit_sortOf_46 (by decide) ?_
        refine lv_goto (tgt := 51) hx hb dn_Circuit_sortOf_47 (by decide) ?_
        rw [hQQ, ← Option.some.inj hf]
        exact ro_iret hx hb hr hlocks dn_Circuit_sortOf_51 rfl
  · have hf := (if_pos h).symm.trans hf
    refine lv_iconst (v := (-1)) hx hb dn_Circuit_sortOf_8 (by decide) ?_
    rw [hQQ, ← Option.some.inj hf]
    exact ro_iret hx hb hr hlocks dn_Circuit_sortOf_9 rfl
set_option maxHeartbeats 8000000 in
set_option maxRecDepth 100000 in
theorem tc_C_signal_C (l : Launch) (hlt : l.stackTraces = false) (dC : Nat → ClassId) (dI : Nat → Nat → Nat) (cI cB cJ cZ cQ : ClassId) (N sz : Nat) (a : Nat → Nat) (v : Nat → Value) (v1 : Int32) (v2 : Int32) (s : ms) (y : Nat) (hf : tx_C_signal_C N v1 v2 s = some y) : xc_Met l yn_C_signal (xw yn_C_signal bn_C_signal 3 (some .int)) ({ frames := 6, cells := 1, slots := 6, locals := 100 }) (xk_PX (dC, dI) xcl (xt cI cB cJ cZ cQ) [.ref ((a 100)), .int v1, .int v2] sz (wC a v cI cB cJ cZ cQ s)) (xk_X (exn y)) 1 6 (fun _ => False) := by
  refine tx_of (by decide) (Nat.le_of_ble_eq_true rfl) ?_
  intro p e s0 m below meth c hx hb hml hown hg hr hlocks hex hst hP hK hN hD ls hl
  have hown : s0.vm.findClass rn_C = some m.cls := hown
  suffices kk : ∀ QQ : State → Prop, QQ = xc_MQ below (xk_X (exn y)) [.ref ((a 100)), .int v1, .int v2].toArray s0 1 6 (fun _ => False) → ∀ ls : Array Slot, va_P (dC, dI) xcl (wC a v cI cB cJ cZ cQ s) s0.heap → va_D (fun _ => True) (wC a v cI cB cJ cZ cQ s) → lv_has ls 3 [(0, .ref ((a 100))), (1, .int v1), (2, .int v2)] → W p l e ({ frames := 6, cells := 1, slots := 6, locals := 100 }) s0 m [.ref ((a 100)), .int v1, .int v2].toArray below meth c s0.heap [] 0 0 QQ (F0 m 0 ls []) by
    exact kk _ rfl ls hP hD hl
  clear hP hD hl ls
  intro QQ hQQ
  have bl_30 : ∀ (s : ms), bx_C_signal_C_30 N s = some y → ∀ ls : Array Slot, va_P (dC, dI) xcl (wC a v cI cB cJ cZ cQ s) s0.heap → va_D (fun _ => True) (wC a v cI cB cJ cZ cQ s) → lv_has ls 3 [] → W p l e ({ frames := 6, cells := 1, slots := 6, locals := 100 }) s0 m [.ref ((a 100)), .int v1, .int v2].toArray below meth c s0.heap [] 0 0 QQ (F0 m 30 ls []) := by
    intro s hf ls hP hD hl
    unfold bx_C_signal_C_30 at hf
    rw [hQQ, ← Option.some.inj hf]
    exact xk_throw (cls := "java/lang/IndexOutOfBoundsException") (names := ["java/lang/RuntimeException", "java/lang/Exception"]) hx hb hlt hown hg hst (by rw [hml]; exact hl.1) hlocks hex (by decide +kernel) (by decide +kernel) wn_7_177 wn_1_27 xa_C_168 (Nat.le_of_ble_eq_true rfl) (Nat.le_of_ble_eq_true rfl) (Nat.le_of_ble_eq_true rfl) (Nat.le_of_ble_eq_true rfl) dn_C_signal_30 dn_C_signal_33 dn_C_signal_34 dn_C_signal_37
  intro ls hP hD hl
  unfold tx_C_signal_C at hf
  refine lv_aload_n hx hb dn_C_signal_0 rfl (lv_at hl 0 rfl) ?_
  refine va_get (D := (dC, dI)) (ci := 1) (v := .int ((s.1 208 0))) (C := rn_C) (T := fn_C) (N := 11) hx hb hg in_C hown hK hP 0 rfl rfl 8 (by decide) (hg _ wn_3_133) (fun _ h9 => h9) rfl dn_C_signal_1 ?_
  refine lv_if_ne (tgt := 15) hx hb dn_C_signal_4 (by decide) (fun h => ?_) (fun h => ?_)
  · have hf := (if_neg h).symm.trans hf
    refine lv_iload_n hx hb dn_C_signal_15 rfl (lv_at hl 1 rfl) ?_
    refine lv_if_lt (tgt := 30) hx hb dn_C_signal_16 (by decide) (fun h => ?_) (fun h => ?_)
    · have hf := (if_pos h).symm.trans hf
      exact bl_30 s hf ls hP hD (lv_sub hl [] rfl)
    · have hf := (if_neg h).symm.trans hf
      refine lv_iload_n hx hb dn_C_signal_19 rfl (lv_at hl 1 rfl) ?_
      refine lv_aload_n hx hb dn_C_signal_20 rfl (lv_at hl 0 rfl) ?_
      refine va_get (D := (dC, dI)) (ci := 1) (v := .ref ((a 112))) (C := rn_C) (T := fn_C) (N := 11) hx hb hg in_C hown hK hP 0 rfl rfl 9 (by decide) (hg _ wn_3_134) (fun _ h9 => h9) rfl dn_C_signal_21 ?_
      refine va_get (D := (dC, dI)) (ci := 9) (v := .int ((s.1 343 0))) (C := rn_Circuit) (T := fn_Circuit) (N := 14) hx hb hg in_Circuit hown hK hP 12 rfl rfl 2 (by decide) (hg _ wn_3_71) (fun _ h9 => h9) rfl dn_C_signal_24 ?_
      refine lv_icmp_lt (tgt := 38) hx hb dn_C_signal_27 (by decide) (fun h => ?_) (fun h => ?_)
      · have hf := (if_pos h).symm.trans hf
        refine lv_iload_n hx hb dn_C_signal_38 rfl (lv_at hl 2 rfl) ?_
        by_cases h_0 : v2 = 0
        · have hf := (if_pos h_0).symm.trans hf
          refine xk_ti (y := 0) h_0 ?_
          refine lv_tableIn (tgt := 64) hx hb dn_C_signal_39 (by decide) (by decide) rfl (by decide) ?_
          refine lv_aload_n hx hb dn_C_signal_64 rfl (lv_at hl 0 rfl) ?_
          refine va_get (D := (dC, dI)) (ci := 1) (v := .ref ((a 112))) (C := rn_C) (T := fn_C) (N := 11) hx hb hg in_C hown hK hP 0 rfl rfl 9 (by decide) (hg _ wn_3_134) (fun _ h9 => h9) rfl dn_C_signal_65 ?_
          refine lv_iload_n hx hb dn_C_signal_68 rfl (lv_at hl 1 rfl) ?_
          obtain ⟨q_1, hc_2, hf⟩ := dc_b hf
          refine ro_calli (ro_runV (ar := 1) (As := [.int v1]) (rest := []) (ci := 9) (q0 := 12) ⟨hx, hb, hml, hown, hg⟩ hK hN (ro_Circuit_widthOf_Cc l dC dI cI cB cJ cZ cQ N s0.heap.size a v v1 s q_1 hc_2) hP hD rfl rfl wn_7_192 wn_7_193 wn_7_194 wn_1_9 wn_7_195 rfl rfl (by decide +kernel) ⟨Nat.le_of_ble_eq_true rfl, Nat.le_of_ble_eq_true rfl⟩ rfl hl.1 rfl (Nat.le_of_ble_eq_true rfl) dn_C_signal_69 ⟨Nat.le_of_ble_eq_true rfl, Nat.le_of_ble_eq_true rfl⟩) ?_
          have hq_3 := id_Circuit_widthOf_Cc N v1 s q_1 hc_2
          have hP : va_P (dC, dI) xcl (wC a v cI cB cJ cZ cQ q_1.2) s0.heap := by rw [hq_3]; exact hP
          have hD : va_D (fun _ => True) (wC a v cI cB cJ cZ cQ q_1.2) := by rw [hq_3]; exact hD
          cases hf
        have hf := (if_neg h_0).symm.trans hf
        by_cases h_1 : v2 = 1
        · have hf := (if_pos h_1).symm.trans hf
          refine xk_ti (y := 1) h_1 ?_
          refine lv_tableIn (tgt := 73) hx hb dn_C_signal_39 (by decide) (by decide) rfl (by decide) ?_
          refine lv_aload_n hx hb dn_C_signal_73 rfl (lv_at hl 0 rfl) ?_
          refine va_get (D := (dC, dI)) (ci := 1) (v := .ref ((a 112))) (C := rn_C) (T := fn_C) (N := 11) hx hb hg in_C hown hK hP 0 rfl rfl 9 (by decide) (hg _ wn_3_134) (fun _ h9 => h9) rfl dn_C_signal_74 ?_
          refine lv_iload_n hx hb dn_C_signal_77 rfl (lv_at hl 1 rfl) ?_
          obtain ⟨q_1, hc_2, hf⟩ := dc_b hf
          refine ro_calli (ro_runV (ar := 1) (As := [.int v1]) (rest := []) (ci := 9) (q0 := 12) ⟨hx, hb, hml, hown, hg⟩ hK hN (ro_Circuit_sortOf_Cc l dC dI cI cB cJ cZ cQ N s0.heap.size a v v1 s q_1 hc_2) hP hD rfl rfl wn_7_196 wn_7_197 wn_7_198 wn_1_9 wn_7_199 rfl rfl (by decide +kernel) ⟨Nat.le_of_ble_eq_true rfl, Nat.le_of_ble_eq_true rfl⟩ rfl hl.1 rfl (Nat.le_of_ble_eq_true rfl) dn_C_signal_78 ⟨Nat.le_of_ble_eq_true rfl, Nat.le_of_ble_eq_true rfl⟩) ?_
          have hq_3 := id_Circuit_sortOf_Cc N v1 s q_1 hc_2
          have hP : va_P (dC, dI) xcl (wC a v cI cB cJ cZ cQ q_1.2) s0.heap := by rw [hq_3]; exact hP
          have hD : va_D (fun _ => True) (wC a v cI cB cJ cZ cQ q_1.2) := by rw [hq_3]; exact hD
          cases hf
        have hf := (if_neg h_1).symm.trans hf
        by_cases h_2 : v2 = 2
        · have hf := (if_pos h_2).symm.trans hf
          refine xk_ti (y := 2) h_2 ?_
          refine lv_tableIn (tgt := 82) hx hb dn_C_signal_39 (by decide) (by decide) rfl (by decide) ?_
          refine lv_aload_n hx hb dn_C_signal_82 rfl (lv_at hl 0 rfl) ?_
          refine va_get (D := (dC, dI)) (ci := 1) (v := .ref ((a 112))) (C := rn_C) (T := fn_C) (N := 11) hx hb hg in_C hown hK hP 0 rfl rfl 9 (by decide) (hg _ wn_3_134) (fun _ h9 => h9) rfl dn_C_signal_83 ?_
          refine lv_iload_n hx hb dn_C_signal_86 rfl (lv_at hl 1 rfl) ?_
          cases hf
        have hf := (if_neg h_2).symm.trans hf
        refine lv_tableOut (tgt := 91) hx hb dn_C_signal_39 (dc_out (fun k h1 h2 => by rcases (show k = 0 ∨ k = 1 ∨ k = 2 by omega) with rfl | rfl | rfl <;> first | exact lv_neT h_0 (by decide) | exact lv_neT h_1 (by decide) | exact lv_neT h_2 (by decide)) (by decide)) (by decide) ?_
        rw [hQQ, ← Option.some.inj hf]
        exact xk_throw (cls := "java/lang/IllegalArgumentException") (names := ["java/lang/RuntimeException", "java/lang/Exception"]) hx hb hlt hown hg hst (by rw [hml]; exact hl.1) hlocks hex (by decide +kernel) (by decide +kernel) wn_7_105 wn_1_18 xa_C_84 (Nat.le_of_ble_eq_true rfl) (Nat.le_of_ble_eq_true rfl) (Nat.le_of_ble_eq_true rfl) (Nat.le_of_ble_eq_true rfl) dn_C_signal_91 dn_C_signal_94 dn_C_signal_95 dn_C_signal_98
      · have hf := (if_neg h).symm.trans hf
        exact bl_30 s hf ls hP hD (lv_sub hl [] rfl)
  · have hf := (if_pos h).symm.trans hf
    rw [hQQ, ← Option.some.inj hf]
    exact xk_throw (cls := "java/lang/IllegalStateException") (names := ["java/lang/RuntimeException", "java/lang/Exception"]) hx hb hlt hown hg hst (by rw [hml]; exact hl.1) hlocks hex (by decide +kernel) (by decide +kernel) wn_7_128 wn_1_26 xa_C_142 (Nat.le_of_ble_eq_true rfl) (Nat.le_of_ble_eq_true rfl) (Nat.le_of_ble_eq_true rfl) (Nat.le_of_ble_eq_true rfl) dn_C_signal_7 dn_C_signal_10 dn_C_signal_11 dn_C_signal_14
set_option maxHeartbeats 8000000 in
set_option maxRecDepth 100000 in
theorem tc_C_reset_C (l : Launch) (hlt : l.stackTraces = false) (dC : Nat → ClassId) (dI : Nat → Nat → Nat) (cI cB cJ cZ cQ : ClassId) (N sz : Nat) (a : Nat → Nat) (v : Nat → Value) (s : ms) (y : Nat) (hf : tx_C_reset_C N s = some y) : xc_Met l yn_C_reset (xw yn_C_reset bn_C_reset 1 none) ({ frames := 6, cells := 1, slots := 6, locals := 100 }) (xk_PX (dC, dI) xcl (xt cI cB cJ cZ cQ) [.ref ((a 100))] sz (wC a v cI cB cJ cZ cQ s)) (xk_X (exn y)) 1 6 (fun _ => False) := by
  refine tx_of (by decide) (Nat.le_of_ble_eq_true rfl) ?_
  intro p e s0 m below meth c hx hb hml hown hg hr hlocks hex hst hP hK hN hD ls hl
  have hown : s0.vm.findClass rn_C = some m.cls := hown
  suffices kk : ∀ QQ : State → Prop, QQ = xc_MQ below (xk_X (exn y)) [.ref ((a 100))].toArray s0 1 6 (fun _ => False) → ∀ ls : Array Slot, va_P (dC, dI) xcl (wC a v cI cB cJ cZ cQ s) s0.heap → va_D (fun _ => True) (wC a v cI cB cJ cZ cQ s) → lv_has ls 1 [(0, .ref ((a 100)))] → W p l e ({ frames := 6, cells := 1, slots := 6, locals := 100 }) s0 m [.ref ((a 100))].toArray below meth c s0.heap [] 0 0 QQ (F0 m 0 ls []) by
    exact kk _ rfl ls hP hD hl
  clear hP hD hl ls
  intro QQ hQQ
  intro ls hP hD hl
  unfold tx_C_reset_C at hf
  refine lv_aload_n hx hb dn_C_reset_0 rfl (lv_at hl 0 rfl) ?_
  refine va_get (D := (dC, dI)) (ci := 1) (v := .int ((s.1 208 0))) (C := rn_C) (T := fn_C) (N := 11) hx hb hg in_C hown hK hP 0 rfl rfl 8 (by decide) (hg _ wn_3_133) (fun _ h9 => h9) rfl dn_C_reset_1 ?_
  refine lv_if_ne (tgt := 15) hx hb dn_C_reset_4 (by decide) (fun h => ?_) (fun h => ?_)
  · have hf := (if_neg h).symm.trans hf
    refine lv_aload_n hx hb dn_C_reset_15 rfl (lv_at hl 0 rfl) ?_
    refine va_get (D := (dC, dI)) (ci := 1) (v := .ref ((a 107))) (C := rn_C) (T := fn_C) (N := 11) hx hb hg in_C hown hK hP 0 rfl rfl 7 (by decide) (hg _ wn_3_132) (fun _ h9 => h9) rfl dn_C_reset_16 ?_
    refine lv_aload_n hx hb dn_C_reset_19 rfl (lv_at hl 0 rfl) ?_
    refine va_get (D := (dC, dI)) (ci := 1) (v := .ref ((a 112))) (C := rn_C) (T := fn_C) (N := 11) hx hb hg in_C hown hK hP 0 rfl rfl 9 (by decide) (hg _ wn_3_134) (fun _ h9 => h9) rfl dn_C_reset_20 ?_
    cases hf
  · have hf := (if_pos h).symm.trans hf
    rw [hQQ, ← Option.some.inj hf]
    exact xk_throw (cls := "java/lang/IllegalStateException") (names := ["java/lang/RuntimeException", "java/lang/Exception"]) hx hb hlt hown hg hst (by rw [hml]; exact hl.1) hlocks hex (by decide +kernel) (by decide +kernel) wn_7_128 wn_1_26 xa_C_142 (Nat.le_of_ble_eq_true rfl) (Nat.le_of_ble_eq_true rfl) (Nat.le_of_ble_eq_true rfl) (Nat.le_of_ble_eq_true rfl) dn_C_reset_7 dn_C_reset_10 dn_C_reset_11 dn_C_reset_14
theorem id_C_mask (N : Nat) (v0 : Int32) (s : ms) (y : (Int64 × ms)) (hf : fn_C_mask N v0 s = some y) : y.2 = s := by
  unfold fn_C_mask at hf
  have hm : s = s := rfl
  by_cases h : v0 < 64
  · have hf := (if_pos h).symm.trans hf
    exact (dc_e2 hf).trans hm
  · have hf := (if_neg h).symm.trans hf
    exact (dc_e2 hf).trans hm
set_option maxHeartbeats 8000000 in
set_option maxRecDepth 100000 in
theorem ro_C_mask (l : Launch) (dC : Nat → ClassId) (dI : Nat → Nat → Nat) (cI cB cJ cZ cQ : ClassId) (N sz : Nat) (a : Nat → Nat) (v : Nat → Value) (v0 : Int32) (s : ms) (y : (Int64 × ms)) (hf : fn_C_mask N v0 s = some y) : Met l yn_C_mask (xw yn_C_mask bn_C_mask 1 (some .long)) ({ frames := 0, cells := 0, slots := 0, locals := 0 }) (xk_P (dC, dI) xcl (xt cI cB cJ cZ cQ) [.int v0] sz (wC a v cI cB cJ cZ cQ s)) (ro_Ql y.1) 0 0 (fun _ => False) := by
  refine ro_of (by decide) (Nat.le_of_ble_eq_true rfl) ?_
  intro p e s0 m below meth c hx hb hml hown hg hr hlocks hP hK hN hD ls hl
  have hown : s0.vm.findClass rn_C = some m.cls := hown
  suffices kk : ∀ QQ : State → Prop, QQ = MQ below (ro_Ql y.1) [.int v0].toArray s0 0 0 (fun _ => False) → ∀ ls : Array Slot, va_P (dC, dI) xcl (wC a v cI cB cJ cZ cQ s) s0.heap → va_D (fun _ => True) (wC a v cI cB cJ cZ cQ s) → lv_has ls 1 [(0, .int v0)] → W p l e ({ frames := 0, cells := 0, slots := 0, locals := 0 }) s0 m [.int v0].toArray below meth c s0.heap [] 0 0 QQ (F0 m 0 ls []) by
    exact kk _ rfl ls hP hD hl
  clear hP hD hl ls
  intro QQ hQQ
  intro ls hP hD hl
  unfold fn_C_mask at hf
  refine lv_iload_n hx hb dn_C_mask_0 rfl (lv_at hl 0 rfl) ?_
  refine lv_bipush (v := 64) hx hb dn_C_mask_1 (by decide) ?_
  refine lv_icmp_lt (tgt := 12) hx hb dn_C_mask_3 (by decide) (fun h => ?_) (fun h => ?_)
  · have hf := (if_pos h).symm.trans hf
    refine lv_lconst (v := 1) hx hb dn_C_mask_12 (by decide) ?_
    refine lv_iload_n hx hb dn_C_mask_13 rfl (lv_at hl 0 rfl) ?_
    refine lv_lshl (v := (1 : Int64) <<< ((Int32.toInt64 v0) &&& 63)) hx hb dn_C_mask_14 rfl ?_
    refine lv_lconst (v := 1) hx hb dn_C_mask_15 (by decide) ?_
    refine lv_lsub hx hb dn_C_mask_16 ?_
    rw [hQQ, ← Option.some.inj hf]
    exact ro_lret hx hb hr hlocks dn_C_mask_17 rfl
  · have hf := (if_neg h).symm.trans hf
    refine lv_ldc2 hx hb hown (hg _ wn_4_73) dn_C_mask_6 ?_
    refine lv_goto (tgt := 17) hx hb dn_C_mask_9 (by decide) ?_
    rw [hQQ, ← Option.some.inj hf]
    exact ro_lret hx hb hr hlocks dn_C_mask_17 rfl
set_option maxHeartbeats 8000000 in
set_option maxRecDepth 100000 in
theorem tc_C_set_C (l : Launch) (hlt : l.stackTraces = false) (dC : Nat → ClassId) (dI : Nat → Nat → Nat) (cI cB cJ cZ cQ : ClassId) (N sz : Nat) (a : Nat → Nat) (v : Nat → Value) (v1 : Int32) (v2 : Int32) (s : ms) (y : Nat) (hf : tx_C_set_C N v1 v2 s = some y) : xc_Met l yn_C_set (xw yn_C_set bn_C_set 3 none) ({ frames := 6, cells := 1, slots := 6, locals := 100 }) (xk_PX (dC, dI) xcl (xt cI cB cJ cZ cQ) [.ref ((a 100)), .int v1, .int v2] sz (wC a v cI cB cJ cZ cQ s)) (xk_X (exn y)) 1 6 (fun _ => False) := by
  refine tx_of (by decide) (Nat.le_of_ble_eq_true rfl) ?_
  intro p e s0 m below meth c hx hb hml hown hg hr hlocks hex hst hP hK hN hD ls hl
  have hown : s0.vm.findClass rn_C = some m.cls := hown
  suffices kk : ∀ QQ : State → Prop, QQ = xc_MQ below (xk_X (exn y)) [.ref ((a 100)), .int v1, .int v2].toArray s0 1 6 (fun _ => False) → ∀ ls : Array Slot, va_P (dC, dI) xcl (wC a v cI cB cJ cZ cQ s) s0.heap → va_D (fun _ => True) (wC a v cI cB cJ cZ cQ s) → lv_has ls 3 [(0, .ref ((a 100))), (1, .int v1), (2, .int v2)] → W p l e ({ frames := 6, cells := 1, slots := 6, locals := 100 }) s0 m [.ref ((a 100)), .int v1, .int v2].toArray below meth c s0.heap [] 0 0 QQ (F0 m 0 ls []) by
    exact kk _ rfl ls hP hD hl
  clear hP hD hl ls
  intro QQ hQQ
  have bl_30 : ∀ (s : ms), bx_C_set_C_30 N s = some y → ∀ ls : Array Slot, va_P (dC, dI) xcl (wC a v cI cB cJ cZ cQ s) s0.heap → va_D (fun _ => True) (wC a v cI cB cJ cZ cQ s) → lv_has ls 3 [] → W p l e ({ frames := 6, cells := 1, slots := 6, locals := 100 }) s0 m [.ref ((a 100)), .int v1, .int v2].toArray below meth c s0.heap [] 0 0 QQ (F0 m 30 ls []) := by
    intro s hf ls hP hD hl
    unfold bx_C_set_C_30 at hf
    rw [hQQ, ← Option.some.inj hf]
    exact xk_throw (cls := "java/lang/IndexOutOfBoundsException") (names := ["java/lang/RuntimeException", "java/lang/Exception"]) hx hb hlt hown hg hst (by rw [hml]; exact hl.1) hlocks hex (by decide +kernel) (by decide +kernel) wn_7_177 wn_1_27 xa_C_168 (Nat.le_of_ble_eq_true rfl) (Nat.le_of_ble_eq_true rfl) (Nat.le_of_ble_eq_true rfl) (Nat.le_of_ble_eq_true rfl) dn_C_set_30 dn_C_set_33 dn_C_set_34 dn_C_set_37
  have bl_78 : ∀ (s : ms), bx_C_set_C_78 N s = some y → ∀ ls : Array Slot, va_P (dC, dI) xcl (wC a v cI cB cJ cZ cQ s) s0.heap → va_D (fun _ => True) (wC a v cI cB cJ cZ cQ s) → lv_has ls 3 [] → W p l e ({ frames := 6, cells := 1, slots := 6, locals := 100 }) s0 m [.ref ((a 100)), .int v1, .int v2].toArray below meth c s0.heap [] 0 0 QQ (F0 m 78 ls []) := by
    intro s hf ls hP hD hl
    unfold bx_C_set_C_78 at hf
    rw [hQQ, ← Option.some.inj hf]
    exact xk_throw (cls := "java/lang/IllegalArgumentException") (names := ["java/lang/RuntimeException", "java/lang/Exception"]) hx hb hlt hown hg hst (by rw [hml]; exact hl.1) hlocks hex (by decide +kernel) (by decide +kernel) wn_7_105 wn_1_18 xa_C_84 (Nat.le_of_ble_eq_true rfl) (Nat.le_of_ble_eq_true rfl) (Nat.le_of_ble_eq_true rfl) (Nat.le_of_ble_eq_true rfl) dn_C_set_78 dn_C_set_81 dn_C_set_82 dn_C_set_85
  intro ls hP hD hl
  unfold tx_C_set_C at hf
  refine lv_aload_n hx hb dn_C_set_0 rfl (lv_at hl 0 rfl) ?_
  refine va_get (D := (dC, dI)) (ci := 1) (v := .int ((s.1 208 0))) (C := rn_C) (T := fn_C) (N := 11) hx hb hg in_C hown hK hP 0 rfl rfl 8 (by decide) (hg _ wn_3_133) (fun _ h9 => h9) rfl dn_C_set_1 ?_
  refine lv_if_ne (tgt := 15) hx hb dn_C_set_4 (by decide) (fun h => ?_) (fun h => ?_)
  · have hf := (if_neg h).symm.trans hf
    refine lv_iload_n hx hb dn_C_set_15 rfl (lv_at hl 1 rfl) ?_
    refine lv_if_lt (tgt := 30) hx hb dn_C_set_16 (by decide) (fun h => ?_) (fun h => ?_)
    · have hf := (if_pos h).symm.trans hf
      exact bl_30 s hf ls hP hD (lv_sub hl [] rfl)
    · have hf := (if_neg h).symm.trans hf
      refine lv_iload_n hx hb dn_C_set_19 rfl (lv_at hl 1 rfl) ?_
      refine lv_aload_n hx hb dn_C_set_20 rfl (lv_at hl 0 rfl) ?_
      refine va_get (D := (dC, dI)) (ci := 1) (v := .ref ((a 112))) (C := rn_C) (T := fn_C) (N := 11) hx hb hg in_C hown hK hP 0 rfl rfl 9 (by decide) (hg _ wn_3_134) (fun _ h9 => h9) rfl dn_C_set_21 ?_
      refine va_get (D := (dC, dI)) (ci := 9) (v := .int ((s.1 343 0))) (C := rn_Circuit) (T := fn_Circuit) (N := 14) hx hb hg in_Circuit hown hK hP 12 rfl rfl 2 (by decide) (hg _ wn_3_71) (fun _ h9 => h9) rfl dn_C_set_24 ?_
      refine lv_icmp_lt (tgt := 38) hx hb dn_C_set_27 (by decide) (fun h => ?_) (fun h => ?_)
      · have hf := (if_pos h).symm.trans hf
        refine lv_aload_n hx hb dn_C_set_38 rfl (lv_at hl 0 rfl) ?_
        refine va_get (D := (dC, dI)) (ci := 1) (v := .ref ((a 112))) (C := rn_C) (T := fn_C) (N := 11) hx hb hg in_C hown hK hP 0 rfl rfl 9 (by decide) (hg _ wn_3_134) (fun _ h9 => h9) rfl dn_C_set_39 ?_
        refine lv_iload_n hx hb dn_C_set_42 rfl (lv_at hl 1 rfl) ?_
        obtain ⟨q_1, hc_2, hf⟩ := dc_b hf
        refine ro_calli (ro_runV (ar := 1) (As := [.int v1]) (rest := []) (ci := 9) (q0 := 12) ⟨hx, hb, hml, hown, hg⟩ hK hN (ro_Circuit_sortOf_Cc l dC dI cI cB cJ cZ cQ N s0.heap.size a v v1 s q_1 hc_2) hP hD rfl rfl wn_7_196 wn_7_197 wn_7_198 wn_1_9 wn_7_199 rfl rfl (by decide +kernel) ⟨Nat.le_of_ble_eq_true rfl, Nat.le_of_ble_eq_true rfl⟩ rfl hl.1 rfl (Nat.le_of_ble_eq_true rfl) dn_C_set_43 ⟨Nat.le_of_ble_eq_true rfl, Nat.le_of_ble_eq_true rfl⟩) ?_
        have hq_3 := id_Circuit_sortOf_Cc N v1 s q_1 hc_2
        have hP : va_P (dC, dI) xcl (wC a v cI cB cJ cZ cQ q_1.2) s0.heap := by rw [hq_3]; exact hP
        have hD : va_D (fun _ => True) (wC a v cI cB cJ cZ cQ q_1.2) := by rw [hq_3]; exact hD
        refine lv_if_eq (tgt := 57) hx hb dn_C_set_46 (by decide) (fun h => ?_) (fun h => ?_)
        · have hf := (if_pos h).symm.trans hf
          refine lv_iload_n hx hb dn_C_set_57 rfl (lv_at hl 2 rfl) ?_
          refine lv_if_lt (tgt := 78) hx hb dn_C_set_58 (by decide) (fun h => ?_) (fun h => ?_)
          · have hf := (if_pos h).symm.trans hf
            exact bl_78 q_1.2 hf ls hP hD (lv_sub hl [] rfl)
          · have hf := (if_neg h).symm.trans hf
            refine lv_iload_n hx hb dn_C_set_61 rfl (lv_at hl 2 rfl) ?_
            refine lv_i2l (v := Int32.toInt64 v2) hx hb dn_C_set_62 rfl ?_
            refine lv_aload_n hx hb dn_C_set_63 rfl (lv_at hl 0 rfl) ?_
            refine va_get (D := (dC, dI)) (ci := 1) (v := .ref ((a 112))) (C := rn_C) (T := fn_C) (N := 11) hx hb hg in_C hown hK hP 0 rfl rfl 9 (by decide) (hg _ wn_3_134) (fun _ h9 => h9) rfl dn_C_set_64 ?_
            refine lv_iload_n hx hb dn_C_set_67 rfl (lv_at hl 1 rfl) ?_
            obtain ⟨q_4, hc_5, hf⟩ := dc_b hf
            refine ro_calli (ro_runV (ar := 1) (As := [.int v1]) (rest := [.long ((Int32.toInt64 v2))]) (ci := 9) (q0 := 12) ⟨hx, hb, hml, hown, hg⟩ hK hN (ro_Circuit_widthOf_Cc l dC dI cI cB cJ cZ cQ N s0.heap.size a v v1 q_1.2 q_4 hc_5) hP hD rfl rfl wn_7_192 wn_7_193 wn_7_194 wn_1_9 wn_7_195 rfl rfl (by decide +kernel) ⟨Nat.le_of_ble_eq_true rfl, Nat.le_of_ble_eq_true rfl⟩ rfl hl.1 rfl (Nat.le_of_ble_eq_true rfl) dn_C_set_68 ⟨Nat.le_of_ble_eq_true rfl, Nat.le_of_ble_eq_true rfl⟩) ?_
            have hq_6 := id_Circuit_widthOf_Cc N v1 q_1.2 q_4 hc_5
            have hP : va_P (dC, dI) xcl (wC a v cI cB cJ cZ cQ q_4.2) s0.heap := by rw [hq_6]; exact hP
            have hD : va_D (fun _ => True) (wC a v cI cB cJ cZ cQ q_4.2) := by rw [hq_6]; exact hD
            obtain ⟨q_7, hc_8, hf⟩ := dc_b hf
            refine ro_calll (ro_runS (ar := 1) (As := [.int q_4.1]) (rest := [.long ((Int32.toInt64 v2))]) ⟨hx, hb, hml, hown, hg⟩ hK hN (ro_C_mask l dC dI cI cB cJ cZ cQ N s0.heap.size a v q_4.1 q_4.2 q_7 hc_8) hP hD wn_7_214 wn_4_71 wn_1_1 wn_4_72 rfl rfl (by decide +kernel) ⟨Nat.le_of_ble_eq_true rfl, Nat.le_of_ble_eq_true rfl⟩ rfl hl.1 rfl (Nat.le_of_ble_eq_true rfl) dn_C_set_71 ⟨Nat.le_of_ble_eq_true rfl, Nat.le_of_ble_eq_true rfl⟩) ?_
            have hq_9 := id_C_mask N q_4.1 q_4.2 q_7 hc_8
            have hP : va_P (dC, dI) xcl (wC a v cI cB cJ cZ cQ q_7.2) s0.heap := by rw [hq_9]; exact hP
            have hD : va_D (fun _ => True) (wC a v cI cB cJ cZ cQ q_7.2) := by rw [hq_9]; exact hD
            refine W.lcmp hx hb dn_C_set_74 ?_
            refine lv_if_le (tgt := 86) hx hb dn_C_set_75 (by decide) (fun h => ?_) (fun h => ?_)
            · have hf := (if_pos h).symm.trans hf
              refine lv_aload_n hx hb dn_C_set_86 rfl (lv_at hl 0 rfl) ?_
              refine va_get (D := (dC, dI)) (ci := 1) (v := .ref ((a 107))) (C := rn_C) (T := fn_C) (N := 11) hx hb hg in_C hown hK hP 0 rfl rfl 7 (by decide) (hg _ wn_3_132) (fun _ h9 => h9) rfl dn_C_set_87 ?_
              refine lv_iload_n hx hb dn_C_set_90 rfl (lv_at hl 1 rfl) ?_
              refine lv_iload_n hx hb dn_C_set_91 rfl (lv_at hl 2 rfl) ?_
              refine lv_i2l (v := Int32.toInt64 v2) hx hb dn_C_set_92 rfl ?_
              cases hf
            · have hf := (if_neg h).symm.trans hf
              exact bl_78 q_7.2 hf ls hP hD (lv_sub hl [] rfl)
        · have hf := (if_neg h).symm.trans hf
          rw [hQQ, ← Option.some.inj hf]
          exact xk_throw (cls := "java/lang/IllegalArgumentException") (names := ["java/lang/RuntimeException", "java/lang/Exception"]) hx hb hlt hown hg hst (by rw [hml]; exact hl.1) hlocks hex (by decide +kernel) (by decide +kernel) wn_7_105 wn_1_18 xa_C_84 (Nat.le_of_ble_eq_true rfl) (Nat.le_of_ble_eq_true rfl) (Nat.le_of_ble_eq_true rfl) (Nat.le_of_ble_eq_true rfl) dn_C_set_49 dn_C_set_52 dn_C_set_53 dn_C_set_56
      · have hf := (if_neg h).symm.trans hf
        exact bl_30 s hf ls hP hD (lv_sub hl [] rfl)
  · have hf := (if_pos h).symm.trans hf
    rw [hQQ, ← Option.some.inj hf]
    exact xk_throw (cls := "java/lang/IllegalStateException") (names := ["java/lang/RuntimeException", "java/lang/Exception"]) hx hb hlt hown hg hst (by rw [hml]; exact hl.1) hlocks hex (by decide +kernel) (by decide +kernel) wn_7_128 wn_1_26 xa_C_142 (Nat.le_of_ble_eq_true rfl) (Nat.le_of_ble_eq_true rfl) (Nat.le_of_ble_eq_true rfl) (Nat.le_of_ble_eq_true rfl) dn_C_set_7 dn_C_set_10 dn_C_set_11 dn_C_set_14
set_option maxHeartbeats 8000000 in
set_option maxRecDepth 100000 in
theorem tc_C_step_C (l : Launch) (hlt : l.stackTraces = false) (dC : Nat → ClassId) (dI : Nat → Nat → Nat) (cI cB cJ cZ cQ : ClassId) (N sz : Nat) (a : Nat → Nat) (v : Nat → Value) (s : ms) (y : Nat) (hf : tx_C_step_C N s = some y) : xc_Met l yn_C_step (xw yn_C_step bn_C_step 1 (some .int)) ({ frames := 6, cells := 1, slots := 6, locals := 100 }) (xk_PX (dC, dI) xcl (xt cI cB cJ cZ cQ) [.ref ((a 100))] sz (wC a v cI cB cJ cZ cQ s)) (xk_X (exn y)) 1 6 (fun _ => False) := by
  refine tx_of (by decide) (Nat.le_of_ble_eq_true rfl) ?_
  intro p e s0 m below meth c hx hb hml hown hg hr hlocks hex hst hP hK hN hD ls hl
  have hown : s0.vm.findClass rn_C = some m.cls := hown
  suffices kk : ∀ QQ : State → Prop, QQ = xc_MQ below (xk_X (exn y)) [.ref ((a 100))].toArray s0 1 6 (fun _ => False) → ∀ ls : Array Slot, va_P (dC, dI) xcl (wC a v cI cB cJ cZ cQ s) s0.heap → va_D (fun _ => True) (wC a v cI cB cJ cZ cQ s) → lv_has ls 1 [(0, .ref ((a 100)))] → W p l e ({ frames := 6, cells := 1, slots := 6, locals := 100 }) s0 m [.ref ((a 100))].toArray below meth c s0.heap [] 0 0 QQ (F0 m 0 ls []) by
    exact kk _ rfl ls hP hD hl
  clear hP hD hl ls
  intro QQ hQQ
  intro ls hP hD hl
  unfold tx_C_step_C at hf
  refine lv_aload_n hx hb dn_C_step_0 rfl (lv_at hl 0 rfl) ?_
  refine va_get (D := (dC, dI)) (ci := 1) (v := .int ((s.1 208 0))) (C := rn_C) (T := fn_C) (N := 11) hx hb hg in_C hown hK hP 0 rfl rfl 8 (by decide) (hg _ wn_3_133) (fun _ h9 => h9) rfl dn_C_step_1 ?_
  refine lv_if_ne (tgt := 15) hx hb dn_C_step_4 (by decide) (fun h => ?_) (fun h => ?_)
  · have hf := (if_neg h).symm.trans hf
    refine lv_aload_n hx hb dn_C_step_15 rfl (lv_at hl 0 rfl) ?_
    refine va_get (D := (dC, dI)) (ci := 1) (v := .ref ((a 107))) (C := rn_C) (T := fn_C) (N := 11) hx hb hg in_C hown hK hP 0 rfl rfl 7 (by decide) (hg _ wn_3_132) (fun _ h9 => h9) rfl dn_C_step_16 ?_
    refine lv_aload_n hx hb dn_C_step_19 rfl (lv_at hl 0 rfl) ?_
    refine va_get (D := (dC, dI)) (ci := 1) (v := .ref ((a 112))) (C := rn_C) (T := fn_C) (N := 11) hx hb hg in_C hown hK hP 0 rfl rfl 9 (by decide) (hg _ wn_3_134) (fun _ h9 => h9) rfl dn_C_step_20 ?_
    cases hf
  · have hf := (if_pos h).symm.trans hf
    rw [hQQ, ← Option.some.inj hf]
    exact xk_throw (cls := "java/lang/IllegalStateException") (names := ["java/lang/RuntimeException", "java/lang/Exception"]) hx hb hlt hown hg hst (by rw [hml]; exact hl.1) hlocks hex (by decide +kernel) (by decide +kernel) wn_7_128 wn_1_26 xa_C_142 (Nat.le_of_ble_eq_true rfl) (Nat.le_of_ble_eq_true rfl) (Nat.le_of_ble_eq_true rfl) (Nat.le_of_ble_eq_true rfl) dn_C_step_7 dn_C_step_10 dn_C_step_11 dn_C_step_14
set_option maxHeartbeats 8000000 in
set_option maxRecDepth 100000 in
theorem tc_C_value_C (l : Launch) (hlt : l.stackTraces = false) (dC : Nat → ClassId) (dI : Nat → Nat → Nat) (cI cB cJ cZ cQ : ClassId) (N sz : Nat) (a : Nat → Nat) (v : Nat → Value) (v1 : Int32) (s : ms) (y : Nat) (hf : tx_C_value_C N v1 s = some y) : xc_Met l yn_C_value (xw yn_C_value bn_C_value 2 (some .long)) ({ frames := 6, cells := 1, slots := 6, locals := 100 }) (xk_PX (dC, dI) xcl (xt cI cB cJ cZ cQ) [.ref ((a 100)), .int v1] sz (wC a v cI cB cJ cZ cQ s)) (xk_X (exn y)) 1 6 (fun _ => False) := by
  refine tx_of (by decide) (Nat.le_of_ble_eq_true rfl) ?_
  intro p e s0 m below meth c hx hb hml hown hg hr hlocks hex hst hP hK hN hD ls hl
  have hown : s0.vm.findClass rn_C = some m.cls := hown
  suffices kk : ∀ QQ : State → Prop, QQ = xc_MQ below (xk_X (exn y)) [.ref ((a 100)), .int v1].toArray s0 1 6 (fun _ => False) → ∀ ls : Array Slot, va_P (dC, dI) xcl (wC a v cI cB cJ cZ cQ s) s0.heap → va_D (fun _ => True) (wC a v cI cB cJ cZ cQ s) → lv_has ls 2 [(0, .ref ((a 100))), (1, .int v1)] → W p l e ({ frames := 6, cells := 1, slots := 6, locals := 100 }) s0 m [.ref ((a 100)), .int v1].toArray below meth c s0.heap [] 0 0 QQ (F0 m 0 ls []) by
    exact kk _ rfl ls hP hD hl
  clear hP hD hl ls
  intro QQ hQQ
  have bl_30 : ∀ (s : ms), bx_C_value_C_30 N s = some y → ∀ ls : Array Slot, va_P (dC, dI) xcl (wC a v cI cB cJ cZ cQ s) s0.heap → va_D (fun _ => True) (wC a v cI cB cJ cZ cQ s) → lv_has ls 2 [] → W p l e ({ frames := 6, cells := 1, slots := 6, locals := 100 }) s0 m [.ref ((a 100)), .int v1].toArray below meth c s0.heap [] 0 0 QQ (F0 m 30 ls []) := by
    intro s hf ls hP hD hl
    unfold bx_C_value_C_30 at hf
    rw [hQQ, ← Option.some.inj hf]
    exact xk_throw (cls := "java/lang/IndexOutOfBoundsException") (names := ["java/lang/RuntimeException", "java/lang/Exception"]) hx hb hlt hown hg hst (by rw [hml]; exact hl.1) hlocks hex (by decide +kernel) (by decide +kernel) wn_7_177 wn_1_27 xa_C_168 (Nat.le_of_ble_eq_true rfl) (Nat.le_of_ble_eq_true rfl) (Nat.le_of_ble_eq_true rfl) (Nat.le_of_ble_eq_true rfl) dn_C_value_30 dn_C_value_33 dn_C_value_34 dn_C_value_37
  intro ls hP hD hl
  unfold tx_C_value_C at hf
  refine lv_aload_n hx hb dn_C_value_0 rfl (lv_at hl 0 rfl) ?_
  refine va_get (D := (dC, dI)) (ci := 1) (v := .int ((s.1 208 0))) (C := rn_C) (T := fn_C) (N := 11) hx hb hg in_C hown hK hP 0 rfl rfl 8 (by decide) (hg _ wn_3_133) (fun _ h9 => h9) rfl dn_C_value_1 ?_
  refine lv_if_ne (tgt := 15) hx hb dn_C_value_4 (by decide) (fun h => ?_) (fun h => ?_)
  · have hf := (if_neg h).symm.trans hf
    refine lv_iload_n hx hb dn_C_value_15 rfl (lv_at hl 1 rfl) ?_
    refine lv_if_lt (tgt := 30) hx hb dn_C_value_16 (by decide) (fun h => ?_) (fun h => ?_)
    · have hf := (if_pos h).symm.trans hf
      exact bl_30 s hf ls hP hD (lv_sub hl [] rfl)
    · have hf := (if_neg h).symm.trans hf
      refine lv_iload_n hx hb dn_C_value_19 rfl (lv_at hl 1 rfl) ?_
      refine lv_aload_n hx hb dn_C_value_20 rfl (lv_at hl 0 rfl) ?_
      refine va_get (D := (dC, dI)) (ci := 1) (v := .ref ((a 112))) (C := rn_C) (T := fn_C) (N := 11) hx hb hg in_C hown hK hP 0 rfl rfl 9 (by decide) (hg _ wn_3_134) (fun _ h9 => h9) rfl dn_C_value_21 ?_
      refine va_get (D := (dC, dI)) (ci := 9) (v := .int ((s.1 343 0))) (C := rn_Circuit) (T := fn_Circuit) (N := 14) hx hb hg in_Circuit hown hK hP 12 rfl rfl 2 (by decide) (hg _ wn_3_71) (fun _ h9 => h9) rfl dn_C_value_24 ?_
      refine lv_icmp_lt (tgt := 38) hx hb dn_C_value_27 (by decide) (fun h => ?_) (fun h => ?_)
      · have hf := (if_pos h).symm.trans hf
        refine lv_aload_n hx hb dn_C_value_38 rfl (lv_at hl 0 rfl) ?_
        refine va_get (D := (dC, dI)) (ci := 1) (v := .ref ((a 107))) (C := rn_C) (T := fn_C) (N := 11) hx hb hg in_C hown hK hP 0 rfl rfl 7 (by decide) (hg _ wn_3_132) (fun _ h9 => h9) rfl dn_C_value_39 ?_
        refine lv_aload_n hx hb dn_C_value_42 rfl (lv_at hl 0 rfl) ?_
        refine va_get (D := (dC, dI)) (ci := 1) (v := .ref ((a 112))) (C := rn_C) (T := fn_C) (N := 11) hx hb hg in_C hown hK hP 0 rfl rfl 9 (by decide) (hg _ wn_3_134) (fun _ h9 => h9) rfl dn_C_value_43 ?_
        refine lv_iload_n hx hb dn_C_value_46 rfl (lv_at hl 1 rfl) ?_
        cases hf
      · have hf := (if_neg h).symm.trans hf
        exact bl_30 s hf ls hP hD (lv_sub hl [] rfl)
  · have hf := (if_pos h).symm.trans hf
    rw [hQQ, ← Option.some.inj hf]
    exact xk_throw (cls := "java/lang/IllegalStateException") (names := ["java/lang/RuntimeException", "java/lang/Exception"]) hx hb hlt hown hg hst (by rw [hml]; exact hl.1) hlocks hex (by decide +kernel) (by decide +kernel) wn_7_128 wn_1_26 xa_C_142 (Nat.le_of_ble_eq_true rfl) (Nat.le_of_ble_eq_true rfl) (Nat.le_of_ble_eq_true rfl) (Nat.le_of_ble_eq_true rfl) dn_C_value_7 dn_C_value_10 dn_C_value_11 dn_C_value_14
set_option maxHeartbeats 8000000 in
set_option maxRecDepth 100000 in
theorem tc_C_failing_C (l : Launch) (hlt : l.stackTraces = false) (dC : Nat → ClassId) (dI : Nat → Nat → Nat) (cI cB cJ cZ cQ : ClassId) (N sz : Nat) (a : Nat → Nat) (v : Nat → Value) (s : ms) (y : Nat) (hf : tx_C_failing_C N s = some y) : xc_Met l yn_C_failing (xw yn_C_failing bn_C_failing 1 (some .int)) ({ frames := 6, cells := 1, slots := 6, locals := 100 }) (xk_PX (dC, dI) xcl (xt cI cB cJ cZ cQ) [.ref ((a 100))] sz (wC a v cI cB cJ cZ cQ s)) (xk_X (exn y)) 1 6 (fun _ => False) := by
  refine tx_of (by decide) (Nat.le_of_ble_eq_true rfl) ?_
  intro p e s0 m below meth c hx hb hml hown hg hr hlocks hex hst hP hK hN hD ls hl
  have hown : s0.vm.findClass rn_C = some m.cls := hown
  suffices kk : ∀ QQ : State → Prop, QQ = xc_MQ below (xk_X (exn y)) [.ref ((a 100))].toArray s0 1 6 (fun _ => False) → ∀ ls : Array Slot, va_P (dC, dI) xcl (wC a v cI cB cJ cZ cQ s) s0.heap → va_D (fun _ => True) (wC a v cI cB cJ cZ cQ s) → lv_has ls 1 [(0, .ref ((a 100)))] → W p l e ({ frames := 6, cells := 1, slots := 6, locals := 100 }) s0 m [.ref ((a 100))].toArray below meth c s0.heap [] 0 0 QQ (F0 m 0 ls []) by
    exact kk _ rfl ls hP hD hl
  clear hP hD hl ls
  intro QQ hQQ
  intro ls hP hD hl
  unfold tx_C_failing_C at hf
  refine lv_aload_n hx hb dn_C_failing_0 rfl (lv_at hl 0 rfl) ?_
  refine va_get (D := (dC, dI)) (ci := 1) (v := .int ((s.1 208 0))) (C := rn_C) (T := fn_C) (N := 11) hx hb hg in_C hown hK hP 0 rfl rfl 8 (by decide) (hg _ wn_3_133) (fun _ h9 => h9) rfl dn_C_failing_1 ?_
  refine lv_if_ne (tgt := 15) hx hb dn_C_failing_4 (by decide) (fun h => ?_) (fun h => ?_)
  · have hf := (if_neg h).symm.trans hf
    refine lv_aload_n hx hb dn_C_failing_15 rfl (lv_at hl 0 rfl) ?_
    refine va_get (D := (dC, dI)) (ci := 1) (v := .ref ((a 107))) (C := rn_C) (T := fn_C) (N := 11) hx hb hg in_C hown hK hP 0 rfl rfl 7 (by decide) (hg _ wn_3_132) (fun _ h9 => h9) rfl dn_C_failing_16 ?_
    refine lv_aload_n hx hb dn_C_failing_19 rfl (lv_at hl 0 rfl) ?_
    refine va_get (D := (dC, dI)) (ci := 1) (v := .ref ((a 112))) (C := rn_C) (T := fn_C) (N := 11) hx hb hg in_C hown hK hP 0 rfl rfl 9 (by decide) (hg _ wn_3_134) (fun _ h9 => h9) rfl dn_C_failing_20 ?_
    cases hf
  · have hf := (if_pos h).symm.trans hf
    rw [hQQ, ← Option.some.inj hf]
    exact xk_throw (cls := "java/lang/IllegalStateException") (names := ["java/lang/RuntimeException", "java/lang/Exception"]) hx hb hlt hown hg hst (by rw [hml]; exact hl.1) hlocks hex (by decide +kernel) (by decide +kernel) wn_7_128 wn_1_26 xa_C_142 (Nat.le_of_ble_eq_true rfl) (Nat.le_of_ble_eq_true rfl) (Nat.le_of_ble_eq_true rfl) (Nat.le_of_ble_eq_true rfl) dn_C_failing_7 dn_C_failing_10 dn_C_failing_11 dn_C_failing_14
