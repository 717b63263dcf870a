/-! Throwing methods over a world; methods with a table of handlers. -/
abbrev xs_u : Term := .static "java/lang/Throwable" "UNASSIGNED_STACK" "[Ljava/lang/StackTraceElement;"
abbrev xs_n : Term := .static "java/lang/Throwable" "SUPPRESSED_SENTINEL" "Ljava/util/List;"
def xs_L : List Cond := [.castable "java/lang/UnsupportedOperationException" "java/lang/UnsupportedOperationException", .castable "java/lang/IllegalArgumentException" "java/lang/IllegalArgumentException", .castable "java/lang/IllegalStateException" "java/lang/IllegalStateException", .castable "java/lang/IndexOutOfBoundsException" "java/lang/IndexOutOfBoundsException", .declares ⟨"java/lang/RuntimeException", "<init>", "()V"⟩, .declares ⟨"java/lang/Exception", "<init>", "()V"⟩, .declares ⟨"java/lang/Throwable", "<init>", "()V"⟩]
/-- what a throw and its catch read beside the tables' good words: the two statics hold a reference or null and are laid; the classes' own casts; the constructors above -/
def xs_St (U : State) : Prop := va_Zq "java/lang/Throwable" "UNASSIGNED_STACK" "[Ljava/lang/StackTraceElement;" (fun _ => False) U U.heap ∧ va_Zq "java/lang/Throwable" "SUPPRESSED_SENTINEL" "Ljava/util/List;" (fun _ => False) U U.heap ∧ (Cond.laysStatic "java/lang/Throwable" "UNASSIGNED_STACK" "[Ljava/lang/StackTraceElement;").before #[] U = true ∧ (Cond.laysStatic "java/lang/Throwable" "SUPPRESSED_SENTINEL" "Ljava/util/List;").before #[] U = true ∧ ∀ w ∈ xs_L, w.before #[] U = true
theorem xs_eq {C n d : String} {A B : Array Value} {U T : State} (hv : T.vm = U.vm) (hh : T.heap = U.heap) : (Cond.laysStatic C n d).before B T = (Cond.laysStatic C n d).before A U := by
  simp only [Cond.before, Cond.holds, Cond.value, State.fieldFound?]
  rw [hv, hh]
theorem xs_lays {C n d : String} {A B : Array Value} {s U : State} (hW : s.WarmedH U.vm) (hh : U.heap = s.heap) (h : (Cond.laysStatic C n d).before A s = true) : (Cond.laysStatic C n d).before B U = true := by
  have h1 : (Cond.laysStatic C n d).before A (s.setVm U.vm) = true := Cond.holds_shifted (State.Shifted.of_warmed hW) _ [] rfl h
  exact (xs_eq (T := U) (U := s.setVm U.vm) (A := A) (B := B) rfl hh).trans h1
theorem xs_cast {a b : String} {A B : Array Value} {s U : State} (hv : s.vm.Alike U.vm) (h : (Cond.castable a b).before A s = true) : (Cond.castable a b).before B U = true := by
  obtain ⟨c3, c4, h3, h4, h5⟩ := Cond.castable_spec h
  simp [Cond.before, Cond.holds, Cond.value, hv.findClass, hv.assignable, h3, h4, h5]
theorem xs_same {w : Cond} {A B : Array Value} {U T : State} (hw : w ∈ xs_L) (hv : T.vm = U.vm) (h : w.before A U = true) : w.before B T = true := by
  refine va_tabs ?_ hv.symm h
  simp only [xs_L, List.mem_cons, List.not_mem_nil, or_false] at hw
  rcases hw with rfl | rfl | rfl | rfl | rfl | rfl | rfl <;> rfl
theorem xs_mem {A : Array Value} {s U : State} (hW : s.WarmedH U.vm) (h : ∀ w ∈ xs_L, w.before #[] s = true) : ∀ w ∈ xs_L, w.before A U = true := by
  intro w hw
  have h0 := h w hw
  have hw' := hw
  simp only [xs_L, List.mem_cons, List.not_mem_nil, or_false] at hw
  rcases hw with rfl | rfl | rfl | rfl | rfl | rfl | rfl
  · exact xs_cast hW.alike h0
  · exact xs_cast hW.alike h0
  · exact xs_cast hW.alike h0
  · exact xs_cast hW.alike h0
  · exact va_Nw.use rfl (va_Nw.warmD hW h0)
  · exact va_Nw.use rfl (va_Nw.warmD hW h0)
  · exact va_Nw.use rfl (va_Nw.warmD hW h0)
theorem xs_any {C n d : String} {A B : Array Value} {U : State} (h : (Cond.isRef (.static C n d)).before A U = true) : (Cond.isRef (.static C n d)).before B U = true := h
theorem xs_of {C n d : String} {A : Nat → Prop} {B : Array Value} {U : State} (h : va_Zq C n d A U U.heap) : (Cond.isRef (.static C n d)).before B U = true := by
  rcases h with ⟨cf, kf, fi, f, a, cell, h1, h2, h3, h4, h5, h6, h7, h8⟩ | ⟨t, cf, kf, fi, f, a, cell, h1, h2, h3, h4, h5, h6, h7, h8⟩
  all_goals simp [Cond.before, Cond.holds, Cond.value, Term.eval, State.fieldNamed?, h1, h2, h3, h4, h5, h6, h7]
/-- it threw an object of the class cls, made nothing else, changed nothing -/
def xk_X (cls : String) : Array Value → State → Outcome → State → Prop := fun _ st o t =>
  (∃ (q : Addr) (ce : Cell), o = .threw q ∧ st.heap.size ≤ q ∧ t.heap[q]? = some ce ∧ ce.vm = .none ∧ st.vm.findClass cls = some ce.cls) ∧ (∀ r : Nat, r < st.heap.size → t.heap[r]? = st.heap[r]?) ∧ st.heap.size ≤ t.heap.size
def xk_PX (D : va_G) (cl : List vw_C) (tys : List (ClassId × FieldType)) (av : List Value) (sz : Nat) (ws : va_W) : Array Value → State → Prop := fun a U => xk_P D cl tys av sz ws a U ∧ xs_St U
theorem xk_blindX {D : va_G} {cl : List vw_C} {tys : List (ClassId × FieldType)} {av : List Value} {sz : Nat} {ws : va_W} : FrameBlind (xk_PX D cl tys av sz ws) := fun a U g mk q =>
  ⟨xk_blind _ _ _ _ q.1, va_Zq.moved (u := U) (U := U.calling g mk a) (Vm.Alike.refl U.vm) q.2.1, va_Zq.moved (u := U) (U := U.calling g mk a) (Vm.Alike.refl U.vm) q.2.2.1, (xs_eq (T := U.calling g mk a) (U := U) (A := #[]) rfl rfl).trans q.2.2.2.1, (xs_eq (T := U.calling g mk a) (U := U) (A := #[]) rfl rfl).trans q.2.2.2.2.1, fun w hw => xs_same (U := U) hw rfl (q.2.2.2.2.2 w hw)⟩
theorem xs_moved {s U : State} (h : xs_St s) (hh : U.heap = s.heap) (hW : s.WarmedH U.vm) : xs_St U := by
  refine ⟨?_, ?_, xs_lays hW hh h.2.2.1, xs_lays hW hh h.2.2.2.1, xs_mem hW h.2.2.2.2⟩
  · rw [hh]; exact h.1.moved hW.alike
  · rw [hh]; exact h.2.1.moved hW.alike
section XX
variable {p : Program} {l : Launch} {e : Env} {R : Room} {s : State} {m : MethodId} {args : Array Value} {below : List Frame} {meth : Method} {c : Code} {H : Heap} {locs : List Loc} {cells slots : Nat} {Q : State → Prop}
variable {cc : ByteArray} {pc : Nat} {ls : Array Slot} {rest st0 : List Value} {D : va_G} {cl : List vw_C} {A : Nat → Prop} {tys : List (ClassId × FieldType)} {ws wc wr : va_W} {H0 : Heap}
theorem xk_ofX {y : MethodName} {b : ByteArray} {n : Nat} {r : Option FieldType} {rm : Room} {av : List Value} {sz mc ms : Nat} {free : Addr → Prop} {Qc : Array Value → State → Outcome → State → Prop} (hy : plainName y.cls = true) (hn : (lg_sl av).length ≤ n)
    (body : ∀ (p : Program) (e : Env) (s : State) (m : MethodId) (below : List Frame) (meth : Method) (c : Code), p.tables.exec = Jvm.exec → c.code = b → c.maxLocals = n → s.vm.findClass y.cls = some m.cls → (∀ w ∈ xw_G, w.before av.toArray s = true) → meth.sig.returnType = r → meth.locks = false → (∀ x ∈ c.exceptionTable.toList, False) → xs_St s → va_P D cl ws s.heap → va_K D cl tys s → va_D (fun _ => True) ws → ∀ ls : Array Slot, lv_has ls n (lv_args 0 av) →
      W p l e rm s m av.toArray below meth c s.heap [] 0 0 (xc_MQ below Qc av.toArray s mc ms free) (F0 m 0 ls [])) : xc_Met l y (xw y b n r) rm (xk_PX D cl tys av sz ws) Qc mc ms free := by
  refine xc_ofW (cc := b) (maxL := n) (ret := r) hy rfl ?_
  intro p e s m args below meth c s₁ B hml hex hv
  obtain ⟨⟨rfl, hsz, hP, hK, hD0, -⟩, hst⟩ := hv
  have hts := atoms_spec (ws := xw y b n r) B.pre
  rw [lg_entry_eq]
  exact body p e s m below meth c B.exec B.bytes hml (findClass_of_methodNamed B.named) (fun w h => hts w (List.mem_cons_of_mem _ h)) B.returns B.notSynchronized hex hst hP hK hD0 _ (lv_entry av hn)
theorem xk_throw {own cls : String} {names : List String} {ik ic : Nat} {free : Addr → Prop} (hx : p.tables.exec = Jvm.exec) (hb : c.code = cc) (hl : l.stackTraces = false) (hown : s.vm.findClass own = some m.cls) (hg : ∀ w ∈ xw_G, w.before args s = true) (hst : xs_St s) (hsize : ls.size = c.maxLocals) (hlocks : meth.locks = false) (hex : ∀ x ∈ c.exceptionTable.toList, False)
    (hcls : Bundle.fit cls = true) (hnames : ∀ n ∈ names, Bundle.fit n = true) (hk : Cond.classLink own ik cls ∈ xw_G) (hini : Cond.initialized cls ∈ xw_G)
    (hat : ∀ w ∈ Bundle.ownAtoms0 own ic cls names, w ∈ xw_G ∨ w = .isRef xs_u ∨ w = .isRef xs_n ∨ w = .laysStatic "java/lang/Throwable" "UNASSIGNED_STACK" "[Ljava/lang/StackTraceElement;" ∨ w = .laysStatic "java/lang/Throwable" "SUPPRESSED_SENTINEL" "Ljava/util/List;" ∨ w ∈ xs_L)
    (hRc : 0 + 1 ≤ R.cells) (hRs : 0 + 6 ≤ R.slots) (hRf : names.length + 3 < R.frames) (hRl : 1 + (rest.map fun v => v.category).sum + (13 * (names.length + 1) + 41) ≤ R.locals)
    (d0 : decode cc pc = .ok (.new ik, 3)) (d3 : decode cc (pc + 3) = .ok (.dup, 1)) (d4 : decode cc (pc + 4) = .ok (.invokespecial ic, 3)) (d7 : decode cc (pc + 7) = .ok (.athrow, 1)) :
    W p l e R s m args below meth c s.heap [] 0 0 (xc_MQ below (xk_X cls) args s 1 6 free) (F0 m pc ls rest) := by
  refine xc_throw0 hx hb hl hown hcls hnames (hg _ hk) (hg _ hini) (fun w hw => ?_) hsize hlocks hex hRc hRs hRf hRl d0 d3 d4 d7 ?_
  · rcases hat w hw with h | rfl | rfl | rfl | rfl | h
    · exact hg _ h
    · exact xs_of hst.1
    · exact xs_of hst.2.1
    · exact (xs_eq (T := s) (U := s) (A := #[]) rfl rfl).trans hst.2.2.1
    · exact (xs_eq (T := s) (U := s) (A := #[]) rfl rfl).trans hst.2.2.2.1
    · exact xs_same (U := s) h rfl (hst.2.2.2.2 w h)
  · intro t q ce h1 h2 h3 h4 h5 h6 _
    exact ⟨⟨q, ce, rfl, h1, h2, h3, h4⟩, h5, h6⟩
/-- a method with a table of handlers: its entry -/
theorem xk_ofH {y : MethodName} {b : ByteArray} {n : Nat} {r : Option FieldType} {hh : List (Nat × Nat × Nat × Nat)} {rm : Room} {av : List Value} {sz mc ms : Nat} {QA : (Nat → Prop) → Array Value → State → Outcome → State → Prop} (hy : plainName y.cls = true) (hn : (lg_sl av).length ≤ n)
    (body : ∀ (p : Program) (e : Env) (s : State) (m : MethodId) (below : List Frame) (meth : Method) (c : Code), p.tables.exec = Jvm.exec → c.code = b → c.maxLocals = n → s.vm.findClass y.cls = some m.cls → (∀ w ∈ xw_G, w.before av.toArray s = true) → meth.sig.returnType = r → meth.locks = false → c.exceptionTable.toList.map (fun h => (h.startPc, h.endPc, h.handlerPc, h.catchType)) = hh → xs_St s → va_P D cl ws s.heap → va_K D cl tys s → xn_St s → ∀ A : Nat → Prop, (∀ q : Nat, s.heap.size ≤ q → A q) → va_D A ws → va_S A s.heap s.heap [] → ∀ ls : Array Slot, lv_has ls n (lv_args 0 av) →
      W p l e rm s m av.toArray below meth c s.heap [] 0 0 (MQ below (QA A) av.toArray s mc ms A) (F0 m 0 ls [])) : Met l y (Cond.codeWith y b n r hh :: xw_G) rm (xk_PX D cl tys av sz ws) (QA (va_A ws sz)) mc ms (va_A ws sz) := by
  refine va_MetW (cc := b) (maxL := n) (ret := r) (hh := hh) hy rfl ?_
  intro p e s m args below meth c s₁ B hml hv
  obtain ⟨⟨rfl, hsz, hP, hK, hD0, hN⟩, hst⟩ := hv
  subst hsz
  have hts := atoms_spec (ws := Cond.codeWith y b n r hh :: xw_G) B.pre
  obtain ⟨m9, meth9, c9, g1, g2, g3, -, -, g6, -⟩ := Cond.codeWith_spec (hts _ List.mem_cons_self)
  cases g1.symm.trans B.named
  cases g2.symm.trans B.method
  cases g3.symm.trans (Stand.of_body B).code
  rw [lg_entry_eq]
  exact body p e s m below meth c B.exec B.bytes hml (findClass_of_methodNamed B.named) (fun w h => hts w (List.mem_cons_of_mem _ h)) B.returns B.notSynchronized g6 hst hP hK hN _ (fun q h => Or.inr h) hD0.self va_S.rf _ (lv_entry av hn)
/-- a call of a method that throws, in a method whose table catches it -/
theorem xk_callX {y : MethodName} {b2 : ByteArray} {nL n2 i ar ci q0 : Nat} {r2 : Option FieldType} {rm : Room} {own cls name : String} {C : vw_C} {b : Addr} {As : List Value} {fs : List Value} (S : CallFix p m c cc nL s args xw_G own) (hK : va_K D cl tys s) (hN : xn_St s)
    (M : xc_Met l y (xw y b2 n2 r2) rm (xk_PX D cl tys (.ref b :: As) H.size wc) (xk_X cls) 1 6 (fun _ => False)) (hP : va_P D cl ws H) (hS : va_S A H0 H locs) (hPc : va_P D cl wc H) (hDc : va_D A wc) (hc : cl[ci]? = some C) (he : wc[q0]? = some (b, .inr (ci, fs)))
    (hst : xs_St s) (hH : H = s.heap)
    (h1 : Cond.methodLink own i y ∈ xw_G) (h2 : Cond.instanceMethod y ∈ xw_G) (h3 : Cond.selects C.1 y y ∈ xw_G) (h4 : Cond.initialized C.1 ∈ xw_G) (h5 : Cond.code y b2 n2 r2 ∈ xw_G) (hrc : rm.cells = 1) (hrs : rm.slots = 6)
    (hd : y.cls = C.1 ∧ y.cls ≠ "java/lang/invoke/MethodHandle" ∧ y.cls ≠ "java/lang/invoke/VarHandle" ∧ (parseMethodDescriptor y.desc).map (fun d => d.parameters.length) = some ar) (hR : rm.frames + 1 ≤ R.frames ∧ 8 + (n2 + 11) + rm.locals ≤ R.locals)
    (hn : As.length = ar) (hsize : ls.size = nL) (hstk : st0 = As.reverse ++ .ref b :: rest) (hw : (rest.map fun v => v.category).sum ≤ 8) (hdg : decode cc pc = .ok (.invokevirtual i, 3)) (hf : cells + 1 ≤ R.cells ∧ slots + 6 ≤ R.slots)
    {hh : List (Nat × Nat × Nat × Nat)} {sp ep hp ct : Nat} (htab : c.exceptionTable.toList.map (fun h => (h.startPc, h.endPc, h.handlerPc, h.catchType)) = (sp, ep, hp, ct) :: hh) (hcov : sp ≤ pc ∧ pc < ep) (hct : ct ≠ 0) (hlink : Cond.classLink own ct name ∈ xw_G) (hcast : Cond.castable cls name ∈ xs_L)
    (kk : ∀ (q : Addr) (H1 : Heap), va_P D cl ws H1 → va_S A H0 H1 locs → W p l e R s m args below meth c H1 locs (cells + 1) (slots + 6) Q (F0 m hp ls [.ref q])) : W p l e R s m args below meth c H locs cells slots Q (F0 m pc ls st0) := by
  obtain ⟨x, tl, htl⟩ : ∃ x tl, c.exceptionTable.toList = x :: tl := by
    cases hcx : c.exceptionTable.toList with
    | nil => rw [hcx] at htab; cases htab
    | cons x tl => exact ⟨x, tl, rfl⟩
  rw [htl] at htab
  obtain ⟨e1, e2⟩ := List.cons.inj htab
  obtain ⟨ea, eb, ec, ed⟩ : x.startPc = sp ∧ x.endPc = ep ∧ x.handlerPc = hp ∧ x.catchType = ct := by
    have := e1
    simp only [Prod.mk.injEq] at this
    exact this
  have hg := S.2.2.2.2
  refine xc_callV (As := As) (rest := rest) (C := C.1) S M (cwV ar hg (xw_gV h1 h2 h3 h4 h5) rfl hrc hrs hd hR) ⟨xk_blindX, va_recv hK hPc hc he, fun U hU hW => ⟨⟨rfl, by rw [hU], by rw [hU]; exact hPc, va_K.moved hW.alike hK, hDc.weaken (fun _ _ _ _ => trivial), xn_moved hW hN⟩, xs_moved hst (by rw [hU, hH]) hW⟩⟩ rfl hn hsize hstk (lv_room hw) hdg hf ?_ ?_
  · intro v st₀ t L _ _ hq _
    obtain ⟨⟨q, ce, ho, -⟩, -⟩ := hq
    cases ho
  · intro q st₀ t L hh0 hal hal0 hq hL
    obtain ⟨⟨q', ce, ho, g1, g2, g3, g4⟩, g5, g6⟩ := hq
    cases ho
    have hLn : L = [] := by
      cases L with
      | nil => rfl
      | cons z _ => exact (hL z List.mem_cons_self).elim
    subst hLn
    rw [hh0] at g5 g6
    rw [List.append_nil]
    have hcls : s.vm.findClass cls = some ce.cls := by rw [← hal0.findClass]; exact g4
    obtain ⟨k9, hk9, -⟩ := Vm.findClass_spec hcls
    refine xc_catch (x := x) (pre := []) (rest := tl) rfl g2 g3 ⟨k9, hk9⟩ htl (fun _ _ y hy => by cases hy) (fun pl hpl => ?_) ?_
    · obtain ⟨c3, c4, hc3, hc4, hasg⟩ := Cond.castable_spec (hst.2.2.2.2 _ hcast)
      cases Option.some.inj (hc3.symm.trans hcls)
      obtain ⟨c5, hc5, hcl5⟩ := Cond.classLink_spec S.2.2.2.1 (hg _ hlink) pl hpl
      cases Option.some.inj (hc4.symm.trans hc5)
      refine ⟨?_, by rw [ed]; exact hct, c4, by rw [ed]; exact hcl5, hasg⟩
      simp only [covers, ea, eb]
      have := hcov.1
      have := hcov.2
      simp [*]
    · rw [ec]
      refine kk q t.heap (hP.kept (fun k z hz => g5 z.1 ((hP k z hz).lt))) ⟨Nat.le_trans hS.1 g6, fun r h1 h2 => ?_, hS.2.2⟩
      rw [g5 r (Nat.lt_of_lt_of_le h1 hS.1)]
      exact hS.2.1 r h1 h2
/-- a call (invokestatic) of a method with a table of handlers -/
theorem xk_runSH {y : MethodName} {b2 : ByteArray} {nL n2 i ar mc ms : Nat} {r2 : Option FieldType} {hh : List (Nat × Nat × Nat × Nat)} {rm : Room} {own : String} {As : List Value} {Pc : Array Value → State → Prop} {Qc : Array Value → State → Outcome → State → Prop} {free : Addr → Prop} (S : CallFix p m c cc nL s args xw_G own)
    (M : Met l y (Cond.codeWith y b2 n2 r2 hh :: xw_G) rm Pc Qc mc ms free) (hbl : FrameBlind Pc) (hPc : ∀ U : State, U.heap = H → s.WarmedH U.vm → Pc As.toArray U)
    (h1 : Cond.methodLink own i y ∈ xw_G) (h2 : Cond.static y ∈ xw_G) (h4 : Cond.initialized y.cls ∈ xw_G) (h5 : Cond.codeWith y b2 n2 r2 hh ∈ xw_G) (hrc : rm.cells = mc) (hrs : rm.slots = ms)
    (hd : y.cls ≠ "java/lang/invoke/MethodHandle" ∧ y.cls ≠ "java/lang/invoke/VarHandle" ∧ (parseMethodDescriptor y.desc).map (fun d => d.parameters.length) = some ar) (hR : rm.frames + 1 ≤ R.frames ∧ 8 + (n2 + 11) + rm.locals ≤ R.locals)
    (hn : As.length = ar) (hsize : ls.size = nL) (hst : st0 = As.reverse ++ rest) (hw : (rest.map fun v => v.category).sum ≤ 8) (hdg : decode cc pc = .ok (.invokestatic i, 3)) (hf : cells + mc ≤ R.cells ∧ slots + ms ≤ R.slots) :
    va_Run p l e R s m args below meth c H locs cells slots mc ms (F0 m pc ls st0) rest (Qc As.toArray) free := by
  obtain ⟨hx, hb, hml, ho, hg⟩ := S
  have hws : ∀ w ∈ (Cond.codeWith y b2 n2 r2 hh :: xw_G), ∀ (a' : Array Value) (U : State), s.WarmedH U.vm → w.before a' U = true := fun w hw a' U hW => by
    rcases List.mem_cons.mp hw with rfl | hw
    · exact word_at hW (xw_good h5) (hg _ h5)
    · exact word_at hW (xw_good hw) (hg _ hw)
  have hK : Back l R p e below s args y 3 8 (PreOf R mc ms Pc) (PostOf Qc mc ms free) := va_backW (hh := hh) (bytes := b2) (maxL := n2) (ret := r2) M hbl hrc hrs hR.1 hR.2 hws List.mem_cons_self (fun a' U hW => word_at hW (xw_good h4) (hg _ h4))
  intro T hT X
  obtain ⟨mk, methM, cM, hnamed, hmethM, -, -, -, -, -, -, hsigM⟩ := Cond.codeWith_spec (hg _ h5)
  have hstatic : methM.isStatic = true := Cond.static_spec hnamed hmethM (hg _ h2)
  obtain ⟨kP, hkP, -⟩ := className_of_methodNamed hnamed
  have hinitP : kP.init = .initialized := Cond.initialized_spec (findClass_of_methodNamed hnamed) hkP (hg _ h4)
  have hlen : As.length = methM.sig.parameters.length := by
    have h := hd.2.2
    rw [hsigM] at h
    rw [hn]
    exact (Option.some.inj h).symm
  obtain ⟨vm₁, X₁, hstep₁⟩ := X.invokestatic hx ho (hg _ h1) hnamed hmethM hstatic hkP hinitP ⟨hd.1, hd.2.1⟩ (g := F0 m pc ls st0) rfl (argsL := As) (rest := rest) hlen hst (by rw [hb]; exact hdg)
  obtain ⟨v, ⟨U', l2, c2, s2⟩, X', ⟨g', mk', t, L, e1, e2, hq, q1, hL, q2, q3⟩, hsteps⟩ := hK m meth c ⟨T.setVm vm₁, locs, cells, slots⟩ { F0 m pc ls st0 with stack := rest } (.invokestatic i) mk As.toArray X₁ rfl (by rw [hml]; exact hsize) (by rw [hb]; exact hdg) (lv_room hw) (X₁.named hnamed) ⟨hf.1, hf.2, hPc (T.setVm vm₁) hT X₁.warmed⟩
  dsimp only [Pt.U, Pt.locs, Pt.cells, Pt.slots] at X' e1 e2 q1 q2 q3 hsteps
  subst q1; subst q2; subst q3
  exact ⟨v, (T.setVm vm₁).calling g' mk' As.toArray, t, U', L, hT, X', hL, e1, e2, hq, fun target h => hstep₁ _ fun acts => by rw [doInvoke_state]; exact hsteps.trans h⟩
end XX
