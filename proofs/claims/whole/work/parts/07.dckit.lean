/-! Decompiled methods: a state is a pair of memories; a method is a pure function; where it has a value, the machine has it, too. -/
abbrev ms : Type := (Nat → Nat → Int32) × (Nat → Nat → Int64)
def upI (s : ms) (k : Nat) (g : Nat → Int32) : ms := (fun j => if j = k then g else s.1 j, s.2)
def upJ (s : ms) (k : Nat) (g : Nat → Int64) : ms := (s.1, fun j => if j = k then g else s.2 j)
theorem dc_g {α : Type} {c : Prop} [Decidable c] {t : Option α} {y : α} (h : (if c then none else t) = some y) : ¬ c ∧ t = some y := by
  by_cases hc : c
  · rw [if_pos hc] at h; cases h
  · rw [if_neg hc] at h; exact ⟨hc, h⟩
theorem dc_b {α β : Type} {o : Option α} {k : α → Option β} {y : β} (h : o.bind k = some y) : ∃ q, o = some q ∧ k q = some y := Option.bind_eq_some_iff.mp h
theorem dc_inc {x : Int32} {n : Int} {v : Int32} (h : Int32.ofInt n = v) : x + Int32.ofInt n = x + v := by rw [h]
theorem dc_z {v : Int32} (h : ¬ ¬ (v = 0 ∨ v = 1)) : narrow .boolean (.int v) = .int v := by
  rcases Decidable.not_not.mp h with rfl | rfl <;> rfl
theorem dc_zf {v : Int32} (h : ¬ ¬ (v = 0 ∨ v = 1)) : fits .boolean (.int v) = true := by
  rcases Decidable.not_not.mp h with rfl | rfl <;> rfl
theorem dc_out {x lo hi : Int} (h : ∀ k : Int, lo ≤ k → k ≤ hi → ¬ x = k) (h0 : lo ≤ hi) : x < lo ∨ hi < x := by
  rcases Int.lt_or_le x lo with h1 | h1
  · exact Or.inl h1
  · rcases Int.lt_or_le hi x with h2 | h2
    · exact Or.inr h2
    · exact absurd rfl (h x h1 h2)
theorem dc_lm {c L0 d Lm : Nat} (h : c ≤ Lm) : c + (L0 + d * Lm) ≤ L0 + (d + 1) * Lm := by
  rw [Nat.succ_mul]; omega
theorem dc_ra {a b c : Nat} (h : a ≤ b) : a ≤ b + c := Nat.le_trans h (Nat.le_add_right _ _)
def gl (s : ms) : Nat := (s.1 91 0).toNatClampNeg + (s.1 92 0).toNatClampNeg
theorem dc_rm {a b c d : Nat} (h1 : a ≤ b) (h2 : b ≤ c) (h3 : c ≤ d) : 2 * (b - a) + 2 * (c - b) ≤ 2 * (d - a) ∧ 2 * (b - a) + 2 * (c - b) ≤ 2 * (d - a) := by omega
theorem dc_rm0 {a b d : Nat} (h : b ≤ d) : 2 * (b - a) + 0 ≤ 2 * (d - a) ∧ 2 * (b - a) + 0 ≤ 2 * (d - a) := by omega
theorem dc_wa {a b c : Nat} (h1 : a ≤ b) (h2 : b ≤ c) : 2 * (b - a) + 2 * (c - b) ≤ 2 * (c - a) := by omega
theorem dc_we {a b c : Nat} (h : c = b) : 2 * (b - a) + 0 ≤ 2 * (c - a) := by omega
theorem dc_all (ws : va_W) : (List.range ws.length).map (fun i => ws[i]?) = ws.map some := by
  apply List.ext_getElem?
  intro i
  by_cases h : i < ws.length
  · simp [h]
  · simp [h]
def dcC (p : Program) (l : Launch) (e : Env) (R : Room) (s0 : State) (m : MethodId) (args : Array Value) (below : List Frame) (meth : Method) (c : Code) (Q : State → Prop) (D : va_G) (A : Nat → Prop) (w : va_W) (pc n : Nat) (lv : List (Nat × Value)) (st : List Value) : Prop :=
  ∀ (H : Heap) (locs : List Loc) (ls : Array Slot), va_P D xcl w H → va_D A w → va_S A s0.heap H locs → lv_has ls n lv → W p l e R s0 m args below meth c H locs 0 0 Q (F0 m pc ls st)
def dcG (p : Program) (l : Launch) (e : Env) (R : Room) (s0 : State) (m : MethodId) (args : Array Value) (below : List Frame) (meth : Method) (c : Code) (Q : State → Prop) (D : va_G) (A : Nat → Prop) (w : (Nat → Nat) → va_W) (k pc n : Nat) (lv : List (Nat × Value)) (st : List Value) : Prop :=
  ∀ (a : Nat → Nat) (H : Heap) (locs : List Loc) (ls : Array Slot), va_P D xcl (w a) H → va_D A (w a) → va_S A s0.heap H locs → lv_has ls n lv → W p l e R s0 m args below meth c H locs k k Q (F0 m pc ls st)
section DCK
variable {p : Program} {l : Launch} {e : Env} {R : Room} {s : State} {m : MethodId} {args : Array Value} {below : List Frame} {meth : Method} {c : Code} {H : Heap} {locs : List Loc} {cells slots : Nat} {Q : State → Prop}
variable {pc : Nat} {ls : Array Slot} {rest st0 : List Value} {D : va_G} {cl : List vw_C} {A : Nat → Prop} {tys : List (ClassId × FieldType)} {ws : va_W} {H0 : Heap}
theorem dc_calli {S : Type} {post : Int32 → S → Prop} {w1 : S → va_W} {mc ms : Nat} {a : Array Value} (hr : va_Run p l e R s m args below meth c H locs cells slots mc ms (F0 m pc ls st0) rest (xk_Qi D cl tys post w1 (va_A ws H.size) a) (va_A ws H.size)) (hP : va_P D cl ws H) (hD : va_D A ws) (hS : va_S A H0 H locs) (hA : ∀ q, H0.size ≤ q → A q)
    (kk : ∀ (r : Int32) (u : S) (H1 : Heap) (locs1 : List Loc), post r u → va_P D cl (w1 u) H1 → va_D A (w1 u) → va_S A H0 H1 locs1 → W p l e R s m args below meth c H1 locs1 (cells + mc) (slots + ms) Q (F0 m (pc + 3) ls (.int r :: rest))) : W p l e R s m args below meth c H locs cells slots Q (F0 m pc ls st0) :=
  xk_calli (wr := []) hr hP hD hS hA (List.range ws.length) [] (dc_all ws) rfl rfl (fun _ h => by cases h) (fun r u H1 locs1 h1 h2 h3 h4 => kk r u H1 locs1 h1 h2 h3 h4)
theorem dc_calll {S : Type} {post : Int64 → S → Prop} {w1 : S → va_W} {mc ms : Nat} {a : Array Value} (hr : va_Run p l e R s m args below meth c H locs cells slots mc ms (F0 m pc ls st0) rest (xk_Ql D cl tys post w1 (va_A ws H.size) a) (va_A ws H.size)) (hP : va_P D cl ws H) (hD : va_D A ws) (hS : va_S A H0 H locs) (hA : ∀ q, H0.size ≤ q → A q)
    (kk : ∀ (r : Int64) (u : S) (H1 : Heap) (locs1 : List Loc), post r u → va_P D cl (w1 u) H1 → va_D A (w1 u) → va_S A H0 H1 locs1 → W p l e R s m args below meth c H1 locs1 (cells + mc) (slots + ms) Q (F0 m (pc + 3) ls (.long r :: rest))) : W p l e R s m args below meth c H locs cells slots Q (F0 m pc ls st0) :=
  xk_calll (wr := []) hr hP hD hS hA (List.range ws.length) [] (dc_all ws) rfl rfl (fun _ h => by cases h) (fun r u H1 locs1 h1 h2 h3 h4 => kk r u H1 locs1 h1 h2 h3 h4)
theorem dc_callv {S : Type} {post : S → Prop} {w1 : S → va_W} {mc ms : Nat} {a : Array Value} (hr : va_Run p l e R s m args below meth c H locs cells slots mc ms (F0 m pc ls st0) rest (xk_Qv D cl tys post w1 (va_A ws H.size) a) (va_A ws H.size)) (hP : va_P D cl ws H) (hD : va_D A ws) (hS : va_S A H0 H locs) (hA : ∀ q, H0.size ≤ q → A q)
    (kk : ∀ (u : S) (H1 : Heap) (locs1 : List Loc), post u → va_P D cl (w1 u) H1 → va_D A (w1 u) → va_S A H0 H1 locs1 → W p l e R s m args below meth c H1 locs1 (cells + mc) (slots + ms) Q (F0 m (pc + 3) ls rest)) : W p l e R s m args below meth c H locs cells slots Q (F0 m pc ls st0) :=
  xk_callv (wr := []) hr hP hD hS hA (List.range ws.length) [] (dc_all ws) rfl rfl (fun _ h => by cases h) (fun u H1 locs1 h1 h2 h3 h4 => kk u H1 locs1 h1 h2 h3 h4)
end DCK
/-- what never changes: the reference's own row of key words -/
def dc_wl : List Int32 := [109, 111, 100, 117, 108, 101, 32, 101, 110, 100, 109, 111, 100, 117, 108, 101, 32, 105, 110, 112, 117, 116, 32, 111, 117, 116, 112, 117, 116, 32, 119, 105, 114, 101, 32, 114, 101, 103, 32, 97, 115, 115, 105, 103, 110, 32, 97, 108, 119, 97, 121, 115, 32, 112, 111, 115, 101, 100, 103, 101, 32, 99, 108, 111, 99, 107, 32, 98, 101, 103, 105, 110, 32, 101, 110, 100, 32, 105, 102, 32, 101, 108, 115, 101, 32, 99, 97, 115, 101, 32, 101, 110, 100, 99, 97, 115, 101, 32, 100, 101, 102, 97, 117, 108, 116, 32, 97, 115, 115, 101, 114, 116, 32]
def dc_wd (k : Nat) : Int32 := dc_wl.getD k 0
def dc_St (A : Nat → Prop) (U : State) (H : Heap) : Prop := ∃ t : Nat, va_Z "CircuitCyclesModel" "WORDS" "[B" (.ref t) A U H ∧ va_T .byte t 113 (fun j => .int (dc_wd j)) A U H
theorem dc_St.at {A B : Nat → Prop} {s U : State} {H : Heap} {locs : List Loc} (h : dc_St A s s.heap) (hS : va_S A s.heap H locs) (hW : s.WarmedH U.vm) (hF : ∀ q, B q → A q) : dc_St B U H := by
  obtain ⟨t, h1, h2⟩ := h
  exact ⟨t, ((h1.kept (fun a ha hn => hS.2.1 a ha hn)).moved hW.alike).narrow hF, ((h2.kept (fun a ha hn => hS.2.1 a ha hn)).moved hW.alike).narrow hF⟩
def dc_P (D : va_G) (cl : List vw_C) (tys : List (ClassId × FieldType)) (av : List Value) (sz : Nat) (ws : va_W) : Array Value → State → Prop := va_Pc av (fun U => U.heap.size = sz ∧ va_P D cl ws U.heap ∧ va_K D cl tys U ∧ va_D (fun _ => True) ws ∧ xn_St U ∧ dc_St (va_A ws sz) U U.heap)
theorem dc_blind {D : va_G} {cl : List vw_C} {tys : List (ClassId × FieldType)} {av : List Value} {sz : Nat} {ws : va_W} : FrameBlind (dc_P D cl tys av sz ws) := fun a U g mk q => by
  obtain ⟨q0, q1, qP, qK, qD, qN, t, qZ, qT⟩ := q
  exact ⟨q0, q1, qP, va_K.moved (u := U) (U := U.calling g mk a) (Vm.Alike.refl U.vm) qK, qD, xn_same (s := U) rfl qN, t, va_Z.moved (u := U) (U := U.calling g mk a) (Vm.Alike.refl U.vm) qZ, va_T.moved (u := U) (U := U.calling g mk a) (Vm.Alike.refl U.vm) qT⟩
section DCR
variable {p : Program} {l : Launch} {e : Env} {R : Room} {s : State} {m : MethodId} {args : Array Value} {below : List Frame} {meth : Method} {c : Code} {H : Heap} {locs : List Loc} {cells slots : Nat} {Q : State → Prop}
variable {cc : ByteArray} {pc : Nat} {ls : Array Slot} {rest st0 : List Value} {D : va_G} {cl : List vw_C} {A : Nat → Prop} {tys : List (ClassId × FieldType)} {ws : va_W}
theorem dc_of {y : MethodName} {b : ByteArray} {n : Nat} {r : Option FieldType} {rm : Room} {av : List Value} {sz mc ms : Nat} {QA : (Nat → Prop) → Array Value → State → Outcome → State → Prop} (hy : plainName y.cls = true) (hn : (lg_sl av).length ≤ n)
    (body : ∀ (p : Program) (e : Env) (s : State) (m : MethodId) (below : List Frame) (meth : Method) (c : Code), p.tables.exec = Jvm.exec → c.code = b → c.maxLocals = n → s.vm.findClass y.cls = some m.cls → (∀ w ∈ xw_G, w.before av.toArray s = true) → meth.sig.returnType = r → meth.locks = false → meth.name = y.name → va_P D cl ws s.heap → va_K D cl tys s → xn_St s → ∀ A : Nat → Prop, (∀ q : Nat, s.heap.size ≤ q → A q) → va_D A ws → dc_St A s s.heap → ∀ ls : Array Slot, lv_has ls n (lv_args 0 av) →
      W p l e rm s m av.toArray below meth c s.heap [] 0 0 (MQ below (QA A) av.toArray s mc ms A) (F0 m 0 ls [])) : Met l y (xw y b n r) rm (dc_P D cl tys av sz ws) (QA (va_A ws sz)) mc ms (va_A ws sz) := by
  refine Met.ofW (cc := b) (maxL := n) (ret := r) hy rfl ?_
  intro p e s m args below meth c s₁ B hml hv
  obtain ⟨rfl, hsz, hP, hK, hD0, hN, hT⟩ := hv
  subst hsz
  have hts := atoms_spec (ws := xw y b n r) B.pre
  rw [lg_entry_eq]
  exact body p e s m below meth c B.exec B.bytes hml (findClass_of_methodNamed B.named) (fun w h => hts w (List.mem_cons_of_mem _ h)) B.returns B.notSynchronized (name_of_methodNamed B.named B.method).1 hP hK hN _ (fun q h => Or.inr h) hD0.self hT _ (lv_entry av hn)
theorem dc_runV {y : MethodName} {b2 : ByteArray} {nL n2 i ar ci q0 mc ms : Nat} {r2 : Option FieldType} {rm : Room} {own : String} {C : vw_C} {b : Addr} {As : List Value} {fs : List Value} {Qc : Array Value → State → Outcome → State → Prop} (S : CallFix p m c cc nL s args xw_G own) (hK : va_K D cl tys s) (hN : xn_St s) (hT : dc_St A s s.heap) (hS : va_S A s.heap H locs) (hA : ∀ q : Nat, s.heap.size ≤ q → A q)
    (M : Met l y (xw y b2 n2 r2) rm (dc_P D cl tys (.ref b :: As) H.size ws) Qc mc ms (va_A ws H.size)) (hP : va_P D cl ws H) (hD : va_D A ws) (hc : cl[ci]? = some C) (he : ws[q0]? = some (b, .inr (ci, fs)))
    (h1 : Cond.methodLink own i y ∈ xw_G) (h2 : Cond.instanceMethod y ∈ xw_G) (h3 : Cond.selects C.1 y y ∈ xw_G) (h4 : Cond.initialized C.1 ∈ xw_G) (h5 : Cond.code y b2 n2 r2 ∈ xw_G) (hrc : rm.cells = mc) (hrs : rm.slots = ms)
    (hd : y.cls = C.1 ∧ y.cls ≠ "java/lang/invoke/MethodHandle" ∧ y.cls ≠ "java/lang/invoke/VarHandle" ∧ (parseMethodDescriptor y.desc).map (fun d => d.parameters.length) = some ar) (hR : rm.frames + 1 ≤ R.frames ∧ 8 + (n2 + 11) + rm.locals ≤ R.locals)
    (hn : As.length = ar) (hsize : ls.size = nL) (hst : st0 = As.reverse ++ .ref b :: rest) (hw : (rest.map fun v => v.category).sum ≤ 8) (hdg : decode cc pc = .ok (.invokevirtual i, 3)) (hf : cells + mc ≤ R.cells ∧ slots + ms ≤ R.slots) :
    va_Run p l e R s m args below meth c H locs cells slots mc ms (F0 m pc ls st0) rest (Qc (Value.ref b :: As).toArray) (va_A ws H.size) :=
  va_runV (As := As) (rest := rest) S M (cwV ar S.2.2.2.2 (xw_gV h1 h2 h3 h4 h5) rfl hrc hrs hd hR) ⟨dc_blind, va_recv hK hP hc he, fun U hU hW => ⟨rfl, by rw [hU], by rw [hU]; exact hP, va_K.moved hW.alike hK, hD.weaken (fun _ _ _ _ => trivial), xn_moved hW hN, by rw [hU]; exact hT.at hS hW (va_free hD hS hA (List.range ws.length) (dc_all ws))⟩⟩ rfl hn hsize hst (lv_room hw) hdg hf
theorem dc_runS {y : MethodName} {b2 : ByteArray} {nL n2 i ar mc ms : Nat} {r2 : Option FieldType} {rm : Room} {own : String} {As : List Value} {Qc : Array Value → State → Outcome → State → Prop} (S : CallFix p m c cc nL s args xw_G own) (hK : va_K D cl tys s) (hN : xn_St s) (hT : dc_St A s s.heap) (hS : va_S A s.heap H locs) (hA : ∀ q : Nat, s.heap.size ≤ q → A q)
    (M : Met l y (xw y b2 n2 r2) rm (dc_P D cl tys As H.size ws) Qc mc ms (va_A ws H.size)) (hP : va_P D cl ws H) (hD : va_D A ws)
    (h1 : Cond.methodLink own i y ∈ xw_G) (h2 : Cond.static y ∈ xw_G) (h4 : Cond.initialized y.cls ∈ xw_G) (h5 : Cond.code y b2 n2 r2 ∈ xw_G) (hrc : rm.cells = mc) (hrs : rm.slots = ms)
    (hd : y.cls ≠ "java/lang/invoke/MethodHandle" ∧ y.cls ≠ "java/lang/invoke/VarHandle" ∧ (parseMethodDescriptor y.desc).map (fun d => d.parameters.length) = some ar) (hR : rm.frames + 1 ≤ R.frames ∧ 8 + (n2 + 11) + rm.locals ≤ R.locals)
    (hn : As.length = ar) (hsize : ls.size = nL) (hst : st0 = As.reverse ++ rest) (hw : (rest.map fun v => v.category).sum ≤ 8) (hdg : decode cc pc = .ok (.invokestatic i, 3)) (hf : cells + mc ≤ R.cells ∧ slots + ms ≤ R.slots) :
    va_Run p l e R s m args below meth c H locs cells slots mc ms (F0 m pc ls st0) rest (Qc As.toArray) (va_A ws H.size) :=
  va_runS (As := As) (rest := rest) S M ⟨callB_of ar S.2.2.2.2 (xw_g h5) rfl hrc hrs (S.2.2.2.2 _ h4) (S.2.2.2.2 _ h1) hd hR, S.2.2.2.2 _ h2⟩ ⟨dc_blind, fun U hU hW => ⟨rfl, by rw [hU], by rw [hU]; exact hP, va_K.moved hW.alike hK, hD.weaken (fun _ _ _ _ => trivial), xn_moved hW hN, by rw [hU]; exact hT.at hS hW (va_free hD hS hA (List.range ws.length) (dc_all ws))⟩⟩ rfl hn hsize hst (lv_room hw) hdg hf
end DCR
