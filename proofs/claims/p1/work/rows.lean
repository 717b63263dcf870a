section
/-! Contracts of methods that may end by a throw; the throw of 'new E()' at once; its catch in the caller. -/
def xc_Met (l : Launch) (y : MethodName) (ws : List Cond) (rm : Room) (Pc : Array Value → State → Prop) (Qc : Array Value → State → Outcome → State → Prop) (mc ms : Nat) (free : Addr → Prop) : Prop :=
  MetFree l y (headSpec ws rm) Pc (fun _ _ _ _ _ => True) (fun a st o t => Qc a st o t ∧ ∃ L, st.WarmedH t.vm ∧ st.sameButNew ({ t with vm := st.vm } : State) L mc ms ∧ ∀ q ∈ L, free q.base)
def xc_MQ (below : List Frame) (Qc : Array Value → State → Outcome → State → Prop) (a : Array Value) (s : State) (mc ms : Nat) (free : Addr → Prop) : State → Prop := fun t =>
  ∃ o, t.status = .running ∧ Ended t below o ∧ Qc a s o t ∧ ∃ L, s.WarmedH t.vm ∧ s.sameButNew ({ t with vm := s.vm } : State) L mc ms ∧ ∀ q ∈ L, free q.base
theorem xc_same {s t : State} {k n : Nat} (h : s.sameButNew t [] k n) : s.heap.size ≤ t.heap.size ∧ ∀ r : Nat, r < s.heap.size → t.heap[r]? = s.heap[r]? := by
  obtain ⟨-, h2, -, -, -, h6⟩ := h
  refine ⟨h2, fun r hr => ?_⟩
  obtain ⟨c, hc⟩ : ∃ c, s.heap[r]? = some c := ⟨s.heap[r], Array.getElem?_eq_getElem hr⟩
  obtain ⟨c', g1, g2, g3, g4⟩ := h6 r c hc
  have hs : c'.slots = c.slots := by
    apply Array.ext_getElem?
    intro i
    exact g4 i List.not_mem_nil
  rw [g1, hc, g2, hs]
section XC
variable {p : Program} {l : Launch} {e : Env} {R : Room} {s : State} {m : MethodId} {args : Array Value} {below : List Frame} {meth : Method} {c : Code} {H : Heap} {locs : List Loc} {cells slots : Nat} {Q : State → Prop}
theorem xc_mono {Q' : State → Prop} {g : JFrame} (hQ : ∀ t, Q t → Q' t) (k : W p l e R s m args below meth c H locs cells slots Q g) : W p l e R s m args below meth c H locs cells slots Q' g := fun T hT X => by
  obtain ⟨t, a, b⟩ := k T hT X
  exact ⟨t, a, hQ t b⟩
theorem xc_ret {Qc : Array Value → State → Outcome → State → Prop} {mc ms : Nat} {free : Addr → Prop} {g : JFrame} (k : W p l e R s m args below meth c H locs cells slots (MQ below Qc args s mc ms free) g) : W p l e R s m args below meth c H locs cells slots (xc_MQ below Qc args s mc ms free) g :=
  xc_mono (fun t h => by
    obtain ⟨o, h1, h2, h3, L, h4, h5⟩ := h
    exact ⟨o, h1, h2, h3, L, h4.2.1, h4.2.2, h5⟩) k
theorem xc_ofW {y : MethodName} {ws ws' : List Cond} {rm : Room} {Pc : Array Value → State → Prop} {Qc : Array Value → State → Outcome → State → Prop} {mc ms : Nat} {free : Addr → Prop} {cc : ByteArray} {maxL : Nat} {ret : Option FieldType}
    (hy : plainName y.cls = true) (hw : ws = Cond.code y cc maxL ret :: ws')
    (body : ∀ p e s m args below meth c s₁, BodyLoose p l y (headSpec ws rm) cc maxL ret e s m args below meth c s₁ → c.maxLocals = maxL → (∀ x ∈ c.exceptionTable.toList, False) → Pc args s →
      W p l e (headSpec ws rm).room s m args below meth c s.heap [] 0 0 (xc_MQ below Qc args s mc ms free) (entryFrame m args maxL)) : xc_Met l y ws rm Pc Qc mc ms free := by
  refine MetFree.of_bodyS (code := cc) (maxLocals := maxL) (ret := ret) hy ?_ ?_
  · intro args s m h hn
    obtain ⟨meth, c, h1, h2, h3, h4, h5, h6, -, -⟩ := Cond.code_spec hn (atoms_spec (ws := ws) h _ (by rw [hw]; exact List.mem_cons_self))
    exact ⟨meth, c, h1, h2, h3, h4, h5, h6⟩
  · intro p e s m args below meth c s₁ B hml hP _
    have hh0 : s₁.heap = s.heap := by rw [B.state]; rfl
    have hex : c.exceptionTable = #[] := Array.isEmpty_iff.mp (B.noHandlers (atoms_spec (ws := ws) B.pre _ (by rw [hw]; exact List.mem_cons_self)))
    obtain ⟨t, a1, o, b1, b2, b3⟩ := body p e s m args below meth c s₁ B hml (by rw [hex]; intro x hx; cases hx) hP s₁ hh0 (Stand.of_body B)
    exact ⟨t, o, a1, b1, b2, ⟨b3.1, b3.2⟩⟩
theorem xc_throw0 {Qc : Array Value → State → Outcome → State → Prop} {free : Addr → Prop} {cc : ByteArray} {pc : Nat} {ls : Array Slot} {rest : List Value} (hexec : p.tables.exec = Jvm.exec) (hb : c.code = cc) (hl : l.stackTraces = false) {own cls : String} {names : List String} {ik ic : Nat}
    (hown : s.vm.findClass own = some m.cls) (hcls : Bundle.fit cls = true) (hnames : ∀ n ∈ names, Bundle.fit n = true)
    (hk : (Cond.classLink own ik cls).before args s = true) (hini : (Cond.initialized cls).before args s = true)
    (hat : ∀ w ∈ Bundle.ownAtoms0 own ic cls names, w.before args s = true)
    (hsize : ls.size = c.maxLocals) (hlocks : meth.locks = false) (hout : ∀ x ∈ c.exceptionTable.toList, False)
    (hRc : 0 + 1 ≤ R.cells) (hRs : 0 + 6 ≤ R.slots) (hRf : names.length + 3 < R.frames) (hRl : 1 + (rest.map fun v => v.category).sum + (13 * (names.length + 1) + 41) ≤ R.locals)
    (d0 : decode cc pc = .ok (.new ik, 3)) (d3 : decode cc (pc + 3) = .ok (.dup, 1)) (d4 : decode cc (pc + 4) = .ok (.invokespecial ic, 3)) (d7 : decode cc (pc + 7) = .ok (.athrow, 1))
    (hq : ∀ (t : State) (q : Addr) (ce : Cell), s.heap.size ≤ q → t.heap[q]? = some ce → ce.vm = .none → s.vm.findClass cls = some ce.cls → (∀ r : Nat, r < s.heap.size → t.heap[r]? = s.heap[r]?) → s.heap.size ≤ t.heap.size → s.WarmedH t.vm → Qc args s (.threw q) t) :
    W p l e R s m args below meth c s.heap [] 0 0 (xc_MQ below Qc args s 1 6 free) (F0 m pc ls rest) := by
  intro T hT X
  have htr : e.platform.stackTraces = false := by rw [X.admits.platform]; exact hl
  obtain ⟨vm₁, cX, kX, hfX, hkX, -, -, X₁, st1⟩ := X.newCold hexec (own := own) (C := cls) (index := ik) (n := 6) hown hk (hat (.instantiable cls 6) (by simp [Bundle.ownAtoms0])) hini (g := F0 m pc ls rest) rfl (by rw [hb]; exact d0) hRc hRs
  generalize hT1 : (T.setVm vm₁).pushCell { cls := cX, slots := kX.instanceTypes.map defaultValue, vm := .none } = T1 at X₁ st1
  have hsz : T.heap.size = s.heap.size := by rw [hT]
  have hcellA : T1.heap[T.heap.size]? = some (freshCell cX kX) := by rw [← hT1]; exact State.heap_pushCell_size _ _
  obtain ⟨U, hsteps, hrun, hend, hW, hsame, ce, hce, K⟩ := X₁.ctorThrow0 hexec htr (own := own) (cls := cls) (names := names) (ic := ic) hown hcls hnames hat (fun y hy => by cases hy) hfX hkX hcellA (by rw [hsz]; exact Nat.le_refl _)
    (g := F0 m (pc + 4) ls (.ref T.heap.size :: .ref T.heap.size :: rest)) rfl hsize rfl rfl (rest := rest) rfl (by rw [hb]; exact d4) (by rw [hb]; exact d7) (fun x hx => (hout x hx).elim) hRf
    (by simp only [List.map_cons, List.sum_cons]; show 2 * 0 + (1 + _) + _ ≤ _; omega) hlocks
  obtain ⟨z1, z2⟩ := xc_same hsame
  refine ⟨U, ?_, .threw T.heap.size, hrun, hend, hq U _ ce (by rw [hsz]; exact Nat.le_refl _) hce K.vm K.cls z2 z1 hW, [], hW, hsame, fun q h => by cases h⟩
  refine st1 _ ?_
  jvm_step X₁.here [X₁.here.top, hexec, hb, d3, Value.category]
  exact hsteps
end XC
end
section
/-! A throw that comes out of a callee: the walk stands at 'throwing q' over the caller's frame g; it is caught by a row of the caller's table. -/
def xc_W (p : Program) (l : Launch) (e : Env) (R : Room) (s : State) (m : MethodId) (args : Array Value) (below : List Frame) (meth : Method) (c : Code) (H : Heap) (locs : List Loc) (cells slots : Nat) (Q : State → Prop) (g : JFrame) (q : Addr) : Prop :=
  ∀ T : State, T.heap = H → Stand p l e R s m args below meth c T locs cells slots → ∃ t, Steps p.tables e below ((T.setTop g).pushFrame (.throwing q)) t ∧ Q t
/-- a row of the table that covers pc, its class linked; b: whether an object of class cT is one -/
def xc_Row (pl : Platform) (s : State) (d : ClassId) (pc : Nat) (cT : ClassId) (b : Bool) (y : ExceptionTableEntry) : Prop :=
  covers y pc = true ∧ y.catchType ≠ 0 ∧ ∃ c, s.vm.ClassLinks pl d y.catchType c ∧ s.vm.assignable cT c = b
theorem xc_goOne {Q : Handler → Pre} {E : CtlPost} {e : Env} {d : Bool} {acts : List Action} {s : State} {f : JFrame} {a : Addr} {x : ExceptionTableEntry} {t : List ExceptionTableEntry} {c : ClassId} {cell : Cell} {b : Bool} (hx : covers x f.pc = true) (h0 : x.catchType ≠ 0)
    (hl : s.vm.ClassLinks e.platform f.method.cls x.catchType c) (hcell : s.heap[a]? = some cell) (hobj : ∀ k, cell.vm ≠ .statics k)
    (hk : ∃ k, s.vm.classes[cell.cls]? = some k) (hc : ∃ k, s.vm.classes[c]? = some k) (hb : s.vm.assignable cell.cls c = b) :
    wp (findHandler.go f a (x :: t)) Q E e d acts s ↔ if b = true then Q (.found x.handlerPc) d acts (s.setVm (s.vm.noted f.method.cls x.catchType (.cls c))) else wp (findHandler.go f a t) Q E e d acts (s.setVm (s.vm.noted f.method.cls x.catchType (.cls c))) := by
  obtain ⟨g1, g2⟩ := (resolveClass_links e.toSetting hl).op (op := VmOp.resolveClass f.method.cls x.catchType) rfl
  have al : s.vm.Alike (s.vm.noted f.method.cls x.catchType (.cls c)) := (Vm.Alike.refl s.vm).noted _ _ _
  obtain ⟨k1, hk⟩ := hk
  obtain ⟨k2, hc⟩ := hc
  obtain ⟨k3, hk3, -⟩ := al.2.2 _ _ hk
  obtain ⟨k4, hk4, -⟩ := al.2.2 _ _ hc
  rw [← al.assignable] at hb
  simp only [covers] at hx
  cases b <;> simp [findHandler.go, hx, h0, g1, g2, hcell, hobj, hk3, hk4, hb, VmOp.dirties, VmOp.acts]
theorem xc_find {e : Env} {s₀ : State} {f : JFrame} {a : Addr} {cell : Cell} (hobj : ∀ k, cell.vm ≠ .statics k) (hk0 : ∃ k, s₀.vm.classes[cell.cls]? = some k) (x : ExceptionTableEntry) (rest : List ExceptionTableEntry) (hx : xc_Row e.platform s₀ f.method.cls f.pc cell.cls true x) :
    ∀ (pre : List ExceptionTableEntry) (S : State), s₀.WarmedH S.vm → S.heap[a]? = some cell → (∀ y ∈ pre, covers y f.pc = false ∨ xc_Row e.platform s₀ f.method.cls f.pc cell.cls false y) →
      ∃ vm', s₀.WarmedH vm' ∧ ∀ (Q : Handler → Pre) (E : CtlPost) (d : Bool) (acts : List Action), wp (findHandler.go f a (pre ++ x :: rest)) Q E e d acts S ↔ Q (.found x.handlerPc) d acts (S.setVm vm') := by
  obtain ⟨k0, hk0⟩ := hk0
  intro pre
  induction pre with
  | nil =>
    intro S hW hc _
    obtain ⟨k1, hk1, -⟩ := hW.alike.2.2 _ _ hk0
    obtain ⟨h1, h2, cT, hl, hb⟩ := hx
    obtain ⟨dk, _, _, kt, hd, _, _, _, _, hkt, _, hopen⟩ := hl.here
    obtain ⟨k2, hk2, -⟩ := hW.alike.2.2 _ _ hkt
    refine ⟨_, hW.noted hd hopen (State.rightAt_cls hl), fun Q E d acts => ?_⟩
    rw [List.nil_append, xc_goOne h1 h2 (hW.classLinks hl) hc hobj ⟨k1, hk1⟩ ⟨k2, hk2⟩ (b := true) (by rw [hW.alike.assignable]; exact hb), if_pos rfl]
  | cons y ys ih =>
    intro S hW hc hp
    obtain ⟨k1, hk1, -⟩ := hW.alike.2.2 _ _ hk0
    rcases hp y List.mem_cons_self with h | ⟨h1, h2, cT, hl, hb⟩
    · obtain ⟨vm', g1, g2⟩ := ih S hW hc (fun z hz => hp z (List.mem_cons_of_mem _ hz))
      refine ⟨vm', g1, fun Q E d acts => ?_⟩
      rw [List.cons_append, W.findHandler_go_skip h]
      exact g2 Q E d acts
    · obtain ⟨dk, _, _, kt, hd, _, _, _, _, hkt, _, hopen⟩ := hl.here
      obtain ⟨k2, hk2, -⟩ := hW.alike.2.2 _ _ hkt
      obtain ⟨vm', g1, g2⟩ := ih (S.setVm (S.vm.noted f.method.cls y.catchType (.cls cT))) (hW.noted hd hopen (State.rightAt_cls hl)) hc (fun z hz => hp z (List.mem_cons_of_mem _ hz))
      refine ⟨vm', g1, fun Q E d acts => ?_⟩
      rw [List.cons_append, xc_goOne h1 h2 (hW.classLinks hl) hc hobj ⟨k1, hk1⟩ ⟨k2, hk2⟩ (b := false) (by rw [hW.alike.assignable]; exact hb), if_neg (by decide)]
      exact g2 Q E d acts
section XC2
variable {p : Program} {l : Launch} {e : Env} {R : Room} {s : State} {m : MethodId} {args : Array Value} {below : List Frame} {meth : Method} {c : Code} {H : Heap} {locs : List Loc} {cells slots : Nat} {Q : State → Prop}
theorem xc_catch {g : JFrame} {q : Addr} {cell : Cell} (hg : g.method = m) (hcell : H[q]? = some cell) (hv : cell.vm = .none) (hk0 : ∃ k, s.vm.classes[cell.cls]? = some k)
    (pre : List ExceptionTableEntry) (x : ExceptionTableEntry) (rest : List ExceptionTableEntry) (hsplit : c.exceptionTable.toList = pre ++ x :: rest)
    (hpass : ∀ pl : Platform, pl.magicAccessors = ({} : Platform).magicAccessors → ∀ y ∈ pre, covers y g.pc = false ∨ xc_Row pl s m.cls g.pc cell.cls false y) (hx : ∀ pl : Platform, pl.magicAccessors = ({} : Platform).magicAccessors → xc_Row pl s m.cls g.pc cell.cls true x)
    (kk : W p l e R s m args below meth c H locs cells slots Q { g with pc := x.handlerPc, stack := [.ref q] }) : xc_W p l e R s m args below meth c H locs cells slots Q g q := by
  subst hg
  intro T hT X
  have hpl : e.platform.magicAccessors = ({} : Platform).magicAccessors := by rw [X.admits.platform]
  have hvm : ((T.setTop g).pushFrame (.throwing q)).vm = T.vm := throwing_vm T g q
  have hhp : ((T.setTop g).pushFrame (.throwing q)).heap = T.heap := throwing_heap T g q
  obtain ⟨vm', hW', hf⟩ := xc_find (e := e) (s₀ := s) (f := g) (a := q) (cell := cell) (fun k h => by rw [hv] at h; cases h) hk0 x rest (hx _ hpl) pre ((T.setTop g).pushFrame (.throwing q)) (by rw [hvm]; exact X.warmed) (by rw [hhp, hT]; exact hcell) (hpass _ hpl)
  have hfind : ∀ (Q : Handler → Pre) (E : CtlPost) (d : Bool) (acts : List Action), wp (findHandler g q) Q E e d acts ((T.setTop g).pushFrame (.throwing q)) ↔ Q (.found x.handlerPc) d acts (((T.setTop g).pushFrame (.throwing q)).setVm vm') := fun Q E d acts => by
    rw [W.findHandler_eq (by rw [hvm]; exact X.method') X.code, hsplit]
    exact hf Q E d acts
  obtain ⟨t, a1, b1⟩ := kk (T.setVm vm') hT (X.noted hW')
  refine ⟨t, ?_, b1⟩
  obtain ⟨hgo, hw⟩ := X.here.throwing q
  refine Steps.head hgo hw ?_
  have hstep : (stepThrowing e ((T.setTop g).pushFrame (.throwing q)) q (.java g :: T.frames.tail)).1 = (((T.setTop g).pushFrame (.throwing q)).setVm vm').setFrames (.java { g with pc := x.handlerPc, stack := [.ref q] } :: T.frames.tail) := by
    simp only [stepThrowing, searchFrame, vmDo]
    generalize hr : Sem.go _ e false [] ((T.setTop g).pushFrame (.throwing q)) = res
    obtain ⟨as, rfl, ha⟩ := Sem.eq_ok_of hr (a := Handler.found x.handlerPc) (s' := ((T.setTop g).pushFrame (.throwing q)).setVm vm') (acts' := []) (by simp [hfind _ _ _ _])
    rfl
  rw [stepThread_throwing (frames_entered X.here.top _), hstep]
  obtain ⟨g₀, hg0⟩ := Option.isSome_iff_exists.mp X.here.top
  obtain ⟨r, hr⟩ := State.topJava?_eq_some.mp hg0
  have hr' : (T.setVm vm').frames = .java g₀ :: r := hr
  have flip : ∀ (u : State) (F G : List Frame), ((u.setFrames F).setVm vm').setFrames G = (u.setVm vm').setFrames G := fun u F G => by
    rw [show (u.setFrames F).setVm vm' = (u.setVm vm').setFrames F from rfl, State.setFrames_setFrames]
  rw [State.setTop_of_frames _ hr'] at a1
  rw [hr, List.tail_cons, State.pushFrame, flip, State.setTop_of_frames _ hr, flip]
  exact a1
/-- a call (invokevirtual) of a method that may throw -/
theorem xc_callV {Ts ws : List Cond} {cc bytes : ByteArray} {nL maxL index n mc ms : Nat} {own C : String} {y : MethodName} {ret : Option FieldType} {rm : Room} {Pc : Array Value → State → Prop} {Qc : Array Value → State → Outcome → State → Prop} {free : Addr → Prop} {b : Addr} {As rest : List Value} {g : JFrame}
    (S : CallFix p m c cc nL s args Ts own) (hM : xc_Met l y ws rm Pc Qc mc ms free) (cw : CallW R s args own C index y bytes maxL ret ws rm mc ms n) (hp : PreV s H C b Pc As)
    (hg : g.method = m) (hn : As.length = n) (hsize : g.locals.size = nL) (hstack : g.stack = As.reverse ++ .ref b :: rest) (hW : 2 * g.monitorRoom + (rest.map fun v => v.category).sum ≤ 8) (hdg : decode cc g.pc = .ok (.invokevirtual index, 3)) (hf : cells + mc ≤ R.cells ∧ slots + ms ≤ R.slots)
    (kr : ∀ (v : Option Value) (st₀ t : State) (L : List Loc), st₀.heap = H → s.vm.Alike t.vm → Qc (Value.ref b :: As).toArray st₀ (.returned v) t → (∀ q ∈ L, free q.base) → W p l e R s m args below meth c t.heap (locs ++ L) (cells + mc) (slots + ms) Q { g with pc := g.pc + 3, stack := v.toList ++ rest })
    (kx : ∀ (q : Addr) (st₀ t : State) (L : List Loc), st₀.heap = H → s.vm.Alike t.vm → s.vm.Alike st₀.vm → Qc (Value.ref b :: As).toArray st₀ (.threw q) t → (∀ z ∈ L, free z.base) → xc_W p l e R s m args below meth c t.heap (locs ++ L) (cells + mc) (slots + ms) Q { g with stack := rest } q) :
    W p l e R s m args below meth c H locs cells slots Q g := by
  obtain ⟨⟨hrc, hrs, hfr, hlo, hws, hcw, hcode, hini, hy, hlen, hl⟩, hin, hse⟩ := cw
  obtain ⟨hx, hb, hml, ho, -⟩ := S
  obtain ⟨hbl, ⟨cellB, hcB, hoB, hclB⟩, hPc⟩ := hp
  intro T hT X
  subst hg
  obtain ⟨mk, methM, hnamed, hmethM, hstM, habM⟩ := Cond.instanceMethod_spec hin
  obtain ⟨methM', cM, hmethM', -, -, -, -, -, -, hsigM⟩ := Cond.code_spec hnamed hcode
  cases hmethM.symm.trans hmethM'
  obtain ⟨c2, r2, m2, q1, q2, q3, q4, kP, hkP, hkPi⟩ := Cond.selects_spec hse
  cases hclB.symm.trans q1
  cases (State.methodFound?_of_named hnamed hy).symm.trans q2
  cases hnamed.symm.trans q3
  have hselP : selectMethod e.platform s.vm cellB.cls mk = .method mk := by rw [Launch.admits_selectMethod X.admits]; exact q4
  obtain ⟨vm₁, X₁, hstep₁⟩ := X.invokevirtual hx ho hl hnamed hmethM hstM hkP hkPi hy (a := b) (cell := cellB) (by rw [hT]; exact hcB)
    (fun z h => by rw [h] at hoB; cases hoB) hselP hmethM habM hkP hkPi (g := g) rfl (argsL := As) (rest := rest) (by rw [hn]; exact hlen _ hsigM) hstack (by rw [hb]; exact hdg)
  generalize hU : T.setVm vm₁ = U at X₁ hstep₁
  have hUh : U.heap = H := by rw [← hU]; exact hT
  have hn₁ : U.methodNamed? y = some mk := X₁.named hnamed
  obtain ⟨methY, cY, hmY, hcY, -, hlY, -, -, -, -⟩ := Cond.code_spec hn₁ (hws _ hcw (Value.ref b :: As).toArray U X₁.warmed)
  obtain ⟨kY, hkY, -⟩ := className_of_methodNamed hn₁
  have hinitY : kY.init = .initialized := Cond.initialized_spec (args := (Value.ref b :: As).toArray) (findClass_of_methodNamed hn₁) hkY (word_at X₁.warmed (Or.inl (by first | rfl | simp [Cond.onTables, Cond.keeps, Cond.steady])) hini)
  have hdg' : decode c.code ({ g with stack := rest } : JFrame).pc = .ok (.invokevirtual index, 3) := by rw [hb]; exact hdg
  have happ : (headSpec ws rm).appliesLoose y e.platform (U.calling { g with stack := rest } mk (Value.ref b :: As).toArray) = true :=
    Spec.appliesLoose_calling (g := { g with stack := rest }) X₁.here hdg' hn₁ hkY hinitY
      (X₁.room_calling (g := { g with stack := rest }) (R' := rm) (by rw [hml]; exact hsize) hmY hcY hfr (by rw [hlY]; show 2 * g.monitorRoom + (rest.map fun v => v.category).sum + _ + _ ≤ _; omega) (by rw [hrc]; exact hf.1) (by rw [hrs]; exact hf.2)) (atoms_intro fun w hw => hws w hw _ _ X₁.warmed)
  have hfr0 : (U.setTop { g with stack := rest }).frames = [.java { g with stack := rest }] ++ below := by rw [State.frames_setTop' _ X₁.here.top, X₁.tail]; rfl
  obtain ⟨o, s₂, hsteps, -, hend, hq, L, hWt, hsame, hL⟩ := Steps.callFree hM p X₁.admits X₁.cas X₁.clock (acts := []) hfr0 happ (hbl _ _ _ _ (hPc U hUh X₁.warmed)) trivial
  rw [State.frames_setTop' _ X₁.here.top, X₁.tail] at hend
  have hst0 : (U.calling { g with stack := rest } mk (Value.ref b :: As).toArray).heap = H := hUh
  have hvm0 : s.vm.Alike (U.calling { g with stack := rest } mk (Value.ref b :: As).toArray).vm := X₁.warmed.alike
  cases o with
  | returned v =>
    obtain ⟨T', X', hw1, hsm, ht⟩ := X₁.outOf (g := { g with stack := rest }) rfl hdg' hend hWt hsame
    have e1 : s₂.heap = T'.heap := by rw [ht]; rfl
    have e2 : s₂.vm = T'.vm := by rw [ht]; rfl
    obtain ⟨t2, a1, b1⟩ := kr v _ s₂ L hst0 (by rw [e2]; exact X'.warmed.alike) hq hL T' e1.symm X'
    refine ⟨t2, hstep₁ _ fun acts => ?_, b1⟩
    rw [doInvoke_state]
    refine hsteps.trans ?_
    rw [ht]
    exact a1
  | threw q =>
    obtain ⟨T', X', hw1, hsm, ht⟩ := X₁.outOfThrown (g := { g with stack := rest }) rfl hend hWt hsame
    have e1 : s₂.heap = T'.heap := by rw [ht]; exact throwing_heap T' _ q
    have e2 : s₂.vm = T'.vm := by rw [ht]; exact throwing_vm T' _ q
    obtain ⟨t2, a1, b1⟩ := kx q _ s₂ L hst0 (by rw [e2]; exact X'.warmed.alike) hvm0 hq hL T' e1.symm X'
    refine ⟨t2, hstep₁ _ fun acts => ?_, b1⟩
    rw [doInvoke_state]
    refine hsteps.trans ?_
    rw [ht]
    exact a1
end XC2
end
section
-- ===== PART A: goes FIRST, ahead of the names: the tables' words, and 'selects' of the private methods out of them =====
/-- a private method of a class that the tables say can be made, by its rows of tables_1 -/
def lw_okq (q : MethodName × Nat) : Prop := (q.1.cls ≠ "java/lang/invoke/MethodHandle" ∧ q.1.cls ≠ "java/lang/invoke/VarHandle") ∧ Cond.instantiable q.1.cls q.2 ∈ tables_1 ∧ Cond.privateMethod q.1 ∈ tables_1 ∧ Cond.instanceMethod q.1 ∈ tables_1
theorem lw_p0 : lw_okq (⟨"CircuitCycles$Scanner", "clearWords", "()V"⟩, 10) := ⟨⟨by decide +kernel, by decide +kernel⟩, List.mem_of_getElem? (i := 90) (by decide +kernel), List.mem_of_getElem? (i := 703) (by decide +kernel), List.mem_of_getElem? (i := 704) (by decide +kernel)⟩
theorem lw_p1 : lw_okq (⟨"CircuitCycles$Scanner", "skipped", "(I)I"⟩, 10) := ⟨⟨by decide +kernel, by decide +kernel⟩, List.mem_of_getElem? (i := 90) (by decide +kernel), List.mem_of_getElem? (i := 711) (by decide +kernel), List.mem_of_getElem? (i := 712) (by decide +kernel)⟩
theorem lw_p2 : lw_okq (⟨"CircuitCycles$Scanner", "byteAt", "(I)I"⟩, 10) := ⟨⟨by decide +kernel, by decide +kernel⟩, List.mem_of_getElem? (i := 90) (by decide +kernel), List.mem_of_getElem? (i := 715) (by decide +kernel), List.mem_of_getElem? (i := 716) (by decide +kernel)⟩
theorem lw_p3 : lw_okq (⟨"CircuitCycles$Scanner", "token", "(I)I"⟩, 10) := ⟨⟨by decide +kernel, by decide +kernel⟩, List.mem_of_getElem? (i := 90) (by decide +kernel), List.mem_of_getElem? (i := 719) (by decide +kernel), List.mem_of_getElem? (i := 720) (by decide +kernel)⟩
theorem lw_p4 : lw_okq (⟨"CircuitCycles$Scanner", "word", "(I)I"⟩, 10) := ⟨⟨by decide +kernel, by decide +kernel⟩, List.mem_of_getElem? (i := 90) (by decide +kernel), List.mem_of_getElem? (i := 726) (by decide +kernel), List.mem_of_getElem? (i := 727) (by decide +kernel)⟩
theorem lw_p5 : lw_okq (⟨"CircuitCycles$Scanner", "known", "(III)I"⟩, 10) := ⟨⟨by decide +kernel, by decide +kernel⟩, List.mem_of_getElem? (i := 90) (by decide +kernel), List.mem_of_getElem? (i := 737) (by decide +kernel), List.mem_of_getElem? (i := 738) (by decide +kernel)⟩
theorem lw_p6 : lw_okq (⟨"CircuitCycles$Scanner", "repeats", "(III)Z"⟩, 10) := ⟨⟨by decide +kernel, by decide +kernel⟩, List.mem_of_getElem? (i := 90) (by decide +kernel), List.mem_of_getElem? (i := 741) (by decide +kernel), List.mem_of_getElem? (i := 742) (by decide +kernel)⟩
theorem lw_p7 : lw_okq (⟨"CircuitCycles$Scanner", "added", "(III)I"⟩, 10) := ⟨⟨by decide +kernel, by decide +kernel⟩, List.mem_of_getElem? (i := 90) (by decide +kernel), List.mem_of_getElem? (i := 745) (by decide +kernel), List.mem_of_getElem? (i := 746) (by decide +kernel)⟩
theorem lw_p8 : lw_okq (⟨"CircuitCycles$Scanner", "kindOf", "(II)I"⟩, 10) := ⟨⟨by decide +kernel, by decide +kernel⟩, List.mem_of_getElem? (i := 90) (by decide +kernel), List.mem_of_getElem? (i := 749) (by decide +kernel), List.mem_of_getElem? (i := 750) (by decide +kernel)⟩
theorem lw_p9 : lw_okq (⟨"CircuitCycles$Scanner", "spells", "(III)Z"⟩, 10) := ⟨⟨by decide +kernel, by decide +kernel⟩, List.mem_of_getElem? (i := 90) (by decide +kernel), List.mem_of_getElem? (i := 802) (by decide +kernel), List.mem_of_getElem? (i := 803) (by decide +kernel)⟩
theorem lw_p10 : lw_okq (⟨"CircuitCycles$Scanner", "number", "(I)I"⟩, 10) := ⟨⟨by decide +kernel, by decide +kernel⟩, List.mem_of_getElem? (i := 90) (by decide +kernel), List.mem_of_getElem? (i := 811) (by decide +kernel), List.mem_of_getElem? (i := 812) (by decide +kernel)⟩
theorem lw_p11 : lw_okq (⟨"CircuitCycles$Scanner", "sized", "(III)Z"⟩, 10) := ⟨⟨by decide +kernel, by decide +kernel⟩, List.mem_of_getElem? (i := 90) (by decide +kernel), List.mem_of_getElem? (i := 815) (by decide +kernel), List.mem_of_getElem? (i := 816) (by decide +kernel)⟩
theorem lw_p12 : lw_okq (⟨"CircuitCycles$Scanner", "decimal", "(III)I"⟩, 10) := ⟨⟨by decide +kernel, by decide +kernel⟩, List.mem_of_getElem? (i := 90) (by decide +kernel), List.mem_of_getElem? (i := 819) (by decide +kernel), List.mem_of_getElem? (i := 820) (by decide +kernel)⟩
theorem lw_p13 : lw_okq (⟨"CircuitCycles$Grammar", "moduleHead", "()V"⟩, 15) := ⟨⟨by decide +kernel, by decide +kernel⟩, List.mem_of_getElem? (i := 181) (by decide +kernel), List.mem_of_getElem? (i := 922) (by decide +kernel), List.mem_of_getElem? (i := 923) (by decide +kernel)⟩
theorem lw_p14 : lw_okq (⟨"CircuitCycles$Tokens", "misfit", "()I"⟩, 11) := ⟨⟨by decide +kernel, by decide +kernel⟩, List.mem_of_getElem? (i := 39) (by decide +kernel), List.mem_of_getElem? (i := 930) (by decide +kernel), List.mem_of_getElem? (i := 931) (by decide +kernel)⟩
theorem lw_p15 : lw_okq (⟨"CircuitCycles$Tokens", "stop", "(I)V"⟩, 11) := ⟨⟨by decide +kernel, by decide +kernel⟩, List.mem_of_getElem? (i := 39) (by decide +kernel), List.mem_of_getElem? (i := 934) (by decide +kernel), List.mem_of_getElem? (i := 935) (by decide +kernel)⟩
def lw_privs_1 : List (MethodName × Nat) := [(⟨"CircuitCycles$Scanner", "clearWords", "()V"⟩, 10), (⟨"CircuitCycles$Scanner", "skipped", "(I)I"⟩, 10), (⟨"CircuitCycles$Scanner", "byteAt", "(I)I"⟩, 10), (⟨"CircuitCycles$Scanner", "token", "(I)I"⟩, 10), (⟨"CircuitCycles$Scanner", "word", "(I)I"⟩, 10), (⟨"CircuitCycles$Scanner", "known", "(III)I"⟩, 10), (⟨"CircuitCycles$Scanner", "repeats", "(III)Z"⟩, 10), (⟨"CircuitCycles$Scanner", "added", "(III)I"⟩, 10), (⟨"CircuitCycles$Scanner", "kindOf", "(II)I"⟩, 10), (⟨"CircuitCycles$Scanner", "spells", "(III)Z"⟩, 10), (⟨"CircuitCycles$Scanner", "number", "(I)I"⟩, 10), (⟨"CircuitCycles$Scanner", "sized", "(III)Z"⟩, 10), (⟨"CircuitCycles$Scanner", "decimal", "(III)I"⟩, 10), (⟨"CircuitCycles$Grammar", "moduleHead", "()V"⟩, 15), (⟨"CircuitCycles$Tokens", "misfit", "()I"⟩, 11), (⟨"CircuitCycles$Tokens", "stop", "(I)V"⟩, 11)]
theorem lw_r1 : ∀ q ∈ lw_privs_1, lw_okq q := List.forall_mem_cons.mpr ⟨lw_p0, List.forall_mem_cons.mpr ⟨lw_p1, List.forall_mem_cons.mpr ⟨lw_p2, List.forall_mem_cons.mpr ⟨lw_p3, List.forall_mem_cons.mpr ⟨lw_p4, List.forall_mem_cons.mpr ⟨lw_p5, List.forall_mem_cons.mpr ⟨lw_p6, List.forall_mem_cons.mpr ⟨lw_p7, List.forall_mem_cons.mpr ⟨lw_p8, List.forall_mem_cons.mpr ⟨lw_p9, List.forall_mem_cons.mpr ⟨lw_p10, List.forall_mem_cons.mpr ⟨lw_p11, List.forall_mem_cons.mpr ⟨lw_p12, List.forall_mem_cons.mpr ⟨lw_p13, List.forall_mem_cons.mpr ⟨lw_p14, List.forall_mem_cons.mpr ⟨lw_p15, fun _ h => absurd h List.not_mem_nil⟩⟩⟩⟩⟩⟩⟩⟩⟩⟩⟩⟩⟩⟩⟩⟩
theorem lw_p16 : lw_okq (⟨"CircuitCycles$Grammar", "port", "()V"⟩, 15) := ⟨⟨by decide +kernel, by decide +kernel⟩, List.mem_of_getElem? (i := 181) (by decide +kernel), List.mem_of_getElem? (i := 971) (by decide +kernel), List.mem_of_getElem? (i := 972) (by decide +kernel)⟩
theorem lw_p17 : lw_okq (⟨"CircuitCycles$Grammar", "declaration", "(I)V"⟩, 15) := ⟨⟨by decide +kernel, by decide +kernel⟩, List.mem_of_getElem? (i := 181) (by decide +kernel), List.mem_of_getElem? (i := 975) (by decide +kernel), List.mem_of_getElem? (i := 976) (by decide +kernel)⟩
theorem lw_p18 : lw_okq (⟨"CircuitCycles$Grammar", "item", "()V"⟩, 15) := ⟨⟨by decide +kernel, by decide +kernel⟩, List.mem_of_getElem? (i := 181) (by decide +kernel), List.mem_of_getElem? (i := 1023) (by decide +kernel), List.mem_of_getElem? (i := 1024) (by decide +kernel)⟩
theorem lw_p19 : lw_okq (⟨"CircuitCycles$Grammar", "assignment", "()V"⟩, 15) := ⟨⟨by decide +kernel, by decide +kernel⟩, List.mem_of_getElem? (i := 181) (by decide +kernel), List.mem_of_getElem? (i := 1027) (by decide +kernel), List.mem_of_getElem? (i := 1028) (by decide +kernel)⟩
theorem lw_p20 : lw_okq (⟨"CircuitCycles$Grammar", "expFor", "(I)V"⟩, 15) := ⟨⟨by decide +kernel, by decide +kernel⟩, List.mem_of_getElem? (i := 181) (by decide +kernel), List.mem_of_getElem? (i := 1039) (by decide +kernel), List.mem_of_getElem? (i := 1040) (by decide +kernel)⟩
theorem lw_p21 : lw_okq (⟨"CircuitCycles$Grammar", "always", "()V"⟩, 15) := ⟨⟨by decide +kernel, by decide +kernel⟩, List.mem_of_getElem? (i := 181) (by decide +kernel), List.mem_of_getElem? (i := 1048) (by decide +kernel), List.mem_of_getElem? (i := 1049) (by decide +kernel)⟩
theorem lw_p22 : lw_okq (⟨"CircuitCycles$Grammar", "instance", "()V"⟩, 15) := ⟨⟨by decide +kernel, by decide +kernel⟩, List.mem_of_getElem? (i := 181) (by decide +kernel), List.mem_of_getElem? (i := 1056) (by decide +kernel), List.mem_of_getElem? (i := 1057) (by decide +kernel)⟩
theorem lw_p23 : lw_okq (⟨"CircuitCycles$Grammar", "instanceEnd", "()V"⟩, 15) := ⟨⟨by decide +kernel, by decide +kernel⟩, List.mem_of_getElem? (i := 181) (by decide +kernel), List.mem_of_getElem? (i := 1072) (by decide +kernel), List.mem_of_getElem? (i := 1073) (by decide +kernel)⟩
theorem lw_p24 : lw_okq (⟨"CircuitCycles$Design", "isModule", "(I)Z"⟩, 16) := ⟨⟨by decide +kernel, by decide +kernel⟩, List.mem_of_getElem? (i := 357) (by decide +kernel), List.mem_of_getElem? (i := 1084) (by decide +kernel), List.mem_of_getElem? (i := 1085) (by decide +kernel)⟩
theorem lw_p25 : lw_okq (⟨"CircuitCycles$Grammar", "link", "()V"⟩, 15) := ⟨⟨by decide +kernel, by decide +kernel⟩, List.mem_of_getElem? (i := 181) (by decide +kernel), List.mem_of_getElem? (i := 1109) (by decide +kernel), List.mem_of_getElem? (i := 1110) (by decide +kernel)⟩
theorem lw_p26 : lw_okq (⟨"CircuitCycles$Grammar", "statement", "()V"⟩, 15) := ⟨⟨by decide +kernel, by decide +kernel⟩, List.mem_of_getElem? (i := 181) (by decide +kernel), List.mem_of_getElem? (i := 1125) (by decide +kernel), List.mem_of_getElem? (i := 1126) (by decide +kernel)⟩
theorem lw_p27 : lw_okq (⟨"CircuitCycles$Grammar", "enter", "(I)V"⟩, 15) := ⟨⟨by decide +kernel, by decide +kernel⟩, List.mem_of_getElem? (i := 181) (by decide +kernel), List.mem_of_getElem? (i := 1129) (by decide +kernel), List.mem_of_getElem? (i := 1130) (by decide +kernel)⟩
theorem lw_p28 : lw_okq (⟨"CircuitCycles$Grammar", "store", "()V"⟩, 15) := ⟨⟨by decide +kernel, by decide +kernel⟩, List.mem_of_getElem? (i := 181) (by decide +kernel), List.mem_of_getElem? (i := 1133) (by decide +kernel), List.mem_of_getElem? (i := 1134) (by decide +kernel)⟩
theorem lw_p29 : lw_okq (⟨"CircuitCycles$Grammar", "part", "()I"⟩, 15) := ⟨⟨by decide +kernel, by decide +kernel⟩, List.mem_of_getElem? (i := 181) (by decide +kernel), List.mem_of_getElem? (i := 1141) (by decide +kernel), List.mem_of_getElem? (i := 1142) (by decide +kernel)⟩
theorem lw_p30 : lw_okq (⟨"CircuitCycles$Grammar", "behindStatement", "()V"⟩, 15) := ⟨⟨by decide +kernel, by decide +kernel⟩, List.mem_of_getElem? (i := 181) (by decide +kernel), List.mem_of_getElem? (i := 1157) (by decide +kernel), List.mem_of_getElem? (i := 1158) (by decide +kernel)⟩
theorem lw_p31 : lw_okq (⟨"CircuitCycles$Grammar", "otherwise", "()V"⟩, 15) := ⟨⟨by decide +kernel, by decide +kernel⟩, List.mem_of_getElem? (i := 181) (by decide +kernel), List.mem_of_getElem? (i := 1169) (by decide +kernel), List.mem_of_getElem? (i := 1170) (by decide +kernel)⟩
def lw_privs_2 : List (MethodName × Nat) := [(⟨"CircuitCycles$Grammar", "port", "()V"⟩, 15), (⟨"CircuitCycles$Grammar", "declaration", "(I)V"⟩, 15), (⟨"CircuitCycles$Grammar", "item", "()V"⟩, 15), (⟨"CircuitCycles$Grammar", "assignment", "()V"⟩, 15), (⟨"CircuitCycles$Grammar", "expFor", "(I)V"⟩, 15), (⟨"CircuitCycles$Grammar", "always", "()V"⟩, 15), (⟨"CircuitCycles$Grammar", "instance", "()V"⟩, 15), (⟨"CircuitCycles$Grammar", "instanceEnd", "()V"⟩, 15), (⟨"CircuitCycles$Design", "isModule", "(I)Z"⟩, 16), (⟨"CircuitCycles$Grammar", "link", "()V"⟩, 15), (⟨"CircuitCycles$Grammar", "statement", "()V"⟩, 15), (⟨"CircuitCycles$Grammar", "enter", "(I)V"⟩, 15), (⟨"CircuitCycles$Grammar", "store", "()V"⟩, 15), (⟨"CircuitCycles$Grammar", "part", "()I"⟩, 15), (⟨"CircuitCycles$Grammar", "behindStatement", "()V"⟩, 15), (⟨"CircuitCycles$Grammar", "otherwise", "()V"⟩, 15)]
theorem lw_r2 : ∀ q ∈ lw_privs_2, lw_okq q := List.forall_mem_cons.mpr ⟨lw_p16, List.forall_mem_cons.mpr ⟨lw_p17, List.forall_mem_cons.mpr ⟨lw_p18, List.forall_mem_cons.mpr ⟨lw_p19, List.forall_mem_cons.mpr ⟨lw_p20, List.forall_mem_cons.mpr ⟨lw_p21, List.forall_mem_cons.mpr ⟨lw_p22, List.forall_mem_cons.mpr ⟨lw_p23, List.forall_mem_cons.mpr ⟨lw_p24, List.forall_mem_cons.mpr ⟨lw_p25, List.forall_mem_cons.mpr ⟨lw_p26, List.forall_mem_cons.mpr ⟨lw_p27, List.forall_mem_cons.mpr ⟨lw_p28, List.forall_mem_cons.mpr ⟨lw_p29, List.forall_mem_cons.mpr ⟨lw_p30, List.forall_mem_cons.mpr ⟨lw_p31, fun _ h => absurd h List.not_mem_nil⟩⟩⟩⟩⟩⟩⟩⟩⟩⟩⟩⟩⟩⟩⟩⟩
theorem lw_p32 : lw_okq (⟨"CircuitCycles$Grammar", "ifEnd", "()V"⟩, 15) := ⟨⟨by decide +kernel, by decide +kernel⟩, List.mem_of_getElem? (i := 181) (by decide +kernel), List.mem_of_getElem? (i := 1185) (by decide +kernel), List.mem_of_getElem? (i := 1186) (by decide +kernel)⟩
theorem lw_p33 : lw_okq (⟨"CircuitCycles$Grammar", "arm", "()V"⟩, 15) := ⟨⟨by decide +kernel, by decide +kernel⟩, List.mem_of_getElem? (i := 181) (by decide +kernel), List.mem_of_getElem? (i := 1197) (by decide +kernel), List.mem_of_getElem? (i := 1198) (by decide +kernel)⟩
theorem lw_p34 : lw_okq (⟨"CircuitCycles$Grammar", "caseEnd", "()V"⟩, 15) := ⟨⟨by decide +kernel, by decide +kernel⟩, List.mem_of_getElem? (i := 181) (by decide +kernel), List.mem_of_getElem? (i := 1218) (by decide +kernel), List.mem_of_getElem? (i := 1219) (by decide +kernel)⟩
theorem lw_p35 : lw_okq (⟨"CircuitCycles$Grammar", "operand", "()V"⟩, 15) := ⟨⟨by decide +kernel, by decide +kernel⟩, List.mem_of_getElem? (i := 181) (by decide +kernel), List.mem_of_getElem? (i := 1230) (by decide +kernel), List.mem_of_getElem? (i := 1231) (by decide +kernel)⟩
theorem lw_p36 : lw_okq (⟨"CircuitCycles$Grammar", "hold", "(III)V"⟩, 15) := ⟨⟨by decide +kernel, by decide +kernel⟩, List.mem_of_getElem? (i := 181) (by decide +kernel), List.mem_of_getElem? (i := 1234) (by decide +kernel), List.mem_of_getElem? (i := 1235) (by decide +kernel)⟩
theorem lw_p37 : lw_okq (⟨"CircuitCycles$Grammar", "brace", "()V"⟩, 15) := ⟨⟨by decide +kernel, by decide +kernel⟩, List.mem_of_getElem? (i := 181) (by decide +kernel), List.mem_of_getElem? (i := 1238) (by decide +kernel), List.mem_of_getElem? (i := 1239) (by decide +kernel)⟩
theorem lw_p38 : lw_okq (⟨"CircuitCycles$Checker", "push", "(I)V"⟩, 14) := ⟨⟨by decide +kernel, by decide +kernel⟩, List.mem_of_getElem? (i := 128) (by decide +kernel), List.mem_of_getElem? (i := 1247) (by decide +kernel), List.mem_of_getElem? (i := 1248) (by decide +kernel)⟩
theorem lw_p39 : lw_okq (⟨"CircuitCycles$Grammar", "named", "()V"⟩, 15) := ⟨⟨by decide +kernel, by decide +kernel⟩, List.mem_of_getElem? (i := 181) (by decide +kernel), List.mem_of_getElem? (i := 1252) (by decide +kernel), List.mem_of_getElem? (i := 1253) (by decide +kernel)⟩
theorem lw_p40 : lw_okq (⟨"CircuitCycles$Checker", "pop", "()I"⟩, 14) := ⟨⟨by decide +kernel, by decide +kernel⟩, List.mem_of_getElem? (i := 128) (by decide +kernel), List.mem_of_getElem? (i := 1270) (by decide +kernel), List.mem_of_getElem? (i := 1271) (by decide +kernel)⟩
theorem lw_p41 : lw_okq (⟨"CircuitCycles$Grammar", "behindOperand", "()V"⟩, 15) := ⟨⟨by decide +kernel, by decide +kernel⟩, List.mem_of_getElem? (i := 181) (by decide +kernel), List.mem_of_getElem? (i := 1276) (by decide +kernel), List.mem_of_getElem? (i := 1277) (by decide +kernel)⟩
theorem lw_p42 : lw_okq (⟨"CircuitCycles$Grammar", "apply", "(I)V"⟩, 15) := ⟨⟨by decide +kernel, by decide +kernel⟩, List.mem_of_getElem? (i := 181) (by decide +kernel), List.mem_of_getElem? (i := 1283) (by decide +kernel), List.mem_of_getElem? (i := 1284) (by decide +kernel)⟩
theorem lw_p43 : lw_okq (⟨"CircuitCycles$Grammar", "close", "(I)V"⟩, 15) := ⟨⟨by decide +kernel, by decide +kernel⟩, List.mem_of_getElem? (i := 181) (by decide +kernel), List.mem_of_getElem? (i := 1304) (by decide +kernel), List.mem_of_getElem? (i := 1305) (by decide +kernel)⟩
theorem lw_p44 : lw_okq (⟨"CircuitCycles$Grammar", "closeBrace", "(I)V"⟩, 15) := ⟨⟨by decide +kernel, by decide +kernel⟩, List.mem_of_getElem? (i := 181) (by decide +kernel), List.mem_of_getElem? (i := 1320) (by decide +kernel), List.mem_of_getElem? (i := 1321) (by decide +kernel)⟩
theorem lw_p45 : lw_okq (⟨"CircuitCycles$Grammar", "behindExp", "()V"⟩, 15) := ⟨⟨by decide +kernel, by decide +kernel⟩, List.mem_of_getElem? (i := 181) (by decide +kernel), List.mem_of_getElem? (i := 1328) (by decide +kernel), List.mem_of_getElem? (i := 1329) (by decide +kernel)⟩
theorem lw_p46 : lw_okq (⟨"CircuitCycles$Grammar", "linkEnd", "()V"⟩, 15) := ⟨⟨by decide +kernel, by decide +kernel⟩, List.mem_of_getElem? (i := 181) (by decide +kernel), List.mem_of_getElem? (i := 1357) (by decide +kernel), List.mem_of_getElem? (i := 1358) (by decide +kernel)⟩
theorem lw_p47 : lw_okq (⟨"CircuitCycles$Circuit", "layChildren", "(I)V"⟩, 14) := ⟨⟨by decide +kernel, by decide +kernel⟩, List.mem_of_getElem? (i := 351) (by decide +kernel), List.mem_of_getElem? (i := 1396) (by decide +kernel), List.mem_of_getElem? (i := 1397) (by decide +kernel)⟩
def lw_privs_3 : List (MethodName × Nat) := [(⟨"CircuitCycles$Grammar", "ifEnd", "()V"⟩, 15), (⟨"CircuitCycles$Grammar", "arm", "()V"⟩, 15), (⟨"CircuitCycles$Grammar", "caseEnd", "()V"⟩, 15), (⟨"CircuitCycles$Grammar", "operand", "()V"⟩, 15), (⟨"CircuitCycles$Grammar", "hold", "(III)V"⟩, 15), (⟨"CircuitCycles$Grammar", "brace", "()V"⟩, 15), (⟨"CircuitCycles$Checker", "push", "(I)V"⟩, 14), (⟨"CircuitCycles$Grammar", "named", "()V"⟩, 15), (⟨"CircuitCycles$Checker", "pop", "()I"⟩, 14), (⟨"CircuitCycles$Grammar", "behindOperand", "()V"⟩, 15), (⟨"CircuitCycles$Grammar", "apply", "(I)V"⟩, 15), (⟨"CircuitCycles$Grammar", "close", "(I)V"⟩, 15), (⟨"CircuitCycles$Grammar", "closeBrace", "(I)V"⟩, 15), (⟨"CircuitCycles$Grammar", "behindExp", "()V"⟩, 15), (⟨"CircuitCycles$Grammar", "linkEnd", "()V"⟩, 15), (⟨"CircuitCycles$Circuit", "layChildren", "(I)V"⟩, 14)]
theorem lw_r3 : ∀ q ∈ lw_privs_3, lw_okq q := List.forall_mem_cons.mpr ⟨lw_p32, List.forall_mem_cons.mpr ⟨lw_p33, List.forall_mem_cons.mpr ⟨lw_p34, List.forall_mem_cons.mpr ⟨lw_p35, List.forall_mem_cons.mpr ⟨lw_p36, List.forall_mem_cons.mpr ⟨lw_p37, List.forall_mem_cons.mpr ⟨lw_p38, List.forall_mem_cons.mpr ⟨lw_p39, List.forall_mem_cons.mpr ⟨lw_p40, List.forall_mem_cons.mpr ⟨lw_p41, List.forall_mem_cons.mpr ⟨lw_p42, List.forall_mem_cons.mpr ⟨lw_p43, List.forall_mem_cons.mpr ⟨lw_p44, List.forall_mem_cons.mpr ⟨lw_p45, List.forall_mem_cons.mpr ⟨lw_p46, List.forall_mem_cons.mpr ⟨lw_p47, fun _ h => absurd h List.not_mem_nil⟩⟩⟩⟩⟩⟩⟩⟩⟩⟩⟩⟩⟩⟩⟩⟩
theorem lw_p48 : lw_okq (⟨"CircuitCycles$Circuit", "ownSignals", "(I)I"⟩, 14) := ⟨⟨by decide +kernel, by decide +kernel⟩, List.mem_of_getElem? (i := 351) (by decide +kernel), List.mem_of_getElem? (i := 1400) (by decide +kernel), List.mem_of_getElem? (i := 1401) (by decide +kernel)⟩
theorem lw_p49 : lw_okq (⟨"CircuitCycles$Circuit", "laySignals", "(I)V"⟩, 14) := ⟨⟨by decide +kernel, by decide +kernel⟩, List.mem_of_getElem? (i := 351) (by decide +kernel), List.mem_of_getElem? (i := 1410) (by decide +kernel), List.mem_of_getElem? (i := 1411) (by decide +kernel)⟩
theorem lw_p50 : lw_okq (⟨"CircuitCycles$Circuit", "layLinks", "(I)V"⟩, 14) := ⟨⟨by decide +kernel, by decide +kernel⟩, List.mem_of_getElem? (i := 351) (by decide +kernel), List.mem_of_getElem? (i := 1414) (by decide +kernel), List.mem_of_getElem? (i := 1415) (by decide +kernel)⟩
theorem lw_p51 : lw_okq (⟨"CircuitCycles$Order", "visit", "(I)V"⟩, 10) := ⟨⟨by decide +kernel, by decide +kernel⟩, List.mem_of_getElem? (i := 291) (by decide +kernel), List.mem_of_getElem? (i := 1427) (by decide +kernel), List.mem_of_getElem? (i := 1428) (by decide +kernel)⟩
theorem lw_p52 : lw_okq (⟨"CircuitCycles$Order", "enter", "(I)V"⟩, 10) := ⟨⟨by decide +kernel, by decide +kernel⟩, List.mem_of_getElem? (i := 291) (by decide +kernel), List.mem_of_getElem? (i := 1431) (by decide +kernel), List.mem_of_getElem? (i := 1432) (by decide +kernel)⟩
theorem lw_p53 : lw_okq (⟨"CircuitCycles$Order", "nextNeeded", "(I)I"⟩, 10) := ⟨⟨by decide +kernel, by decide +kernel⟩, List.mem_of_getElem? (i := 291) (by decide +kernel), List.mem_of_getElem? (i := 1436) (by decide +kernel), List.mem_of_getElem? (i := 1437) (by decide +kernel)⟩
theorem lw_p54 : lw_okq (⟨"CircuitCycles$Order", "leave", "(I)V"⟩, 10) := ⟨⟨by decide +kernel, by decide +kernel⟩, List.mem_of_getElem? (i := 291) (by decide +kernel), List.mem_of_getElem? (i := 1442) (by decide +kernel), List.mem_of_getElem? (i := 1443) (by decide +kernel)⟩
theorem lw_p55 : lw_okq (⟨"CircuitCycles$Order", "append", "(I)V"⟩, 10) := ⟨⟨by decide +kernel, by decide +kernel⟩, List.mem_of_getElem? (i := 291) (by decide +kernel), List.mem_of_getElem? (i := 1446) (by decide +kernel), List.mem_of_getElem? (i := 1447) (by decide +kernel)⟩
theorem lw_p56 : lw_okq (⟨"CircuitCycles$Circuit", "isSignal", "(I)Z"⟩, 14) := ⟨⟨by decide +kernel, by decide +kernel⟩, List.mem_of_getElem? (i := 351) (by decide +kernel), List.mem_of_getElem? (i := 1454) (by decide +kernel), List.mem_of_getElem? (i := 1455) (by decide +kernel)⟩
theorem lw_p57 : lw_okq (⟨"java/lang/Throwable", "fillInStackTrace", "(I)Ljava/lang/Throwable;"⟩, 6) := ⟨⟨by decide +kernel, by decide +kernel⟩, List.mem_of_getElem? (i := 1518) (by decide +kernel), List.mem_of_getElem? (i := 1516) (by decide +kernel), List.mem_of_getElem? (i := 1517) (by decide +kernel)⟩
theorem lw_p58 : lw_okq (⟨"CircuitCycles", "append", "(I)V"⟩, 11) := ⟨⟨by decide +kernel, by decide +kernel⟩, List.mem_of_getElem? (i := 31) (by decide +kernel), List.mem_of_getElem? (i := 1555) (by decide +kernel), List.mem_of_getElem? (i := 1556) (by decide +kernel)⟩
theorem lw_p59 : lw_okq (⟨"CircuitCycles$Circuit", "childCalled", "(I[BII)I"⟩, 14) := ⟨⟨by decide +kernel, by decide +kernel⟩, List.mem_of_getElem? (i := 351) (by decide +kernel), List.mem_of_getElem? (i := 1617) (by decide +kernel), List.mem_of_getElem? (i := 1618) (by decide +kernel)⟩
theorem lw_p60 : lw_okq (⟨"CircuitCycles$Circuit", "signalCalled", "(I[BII)I"⟩, 14) := ⟨⟨by decide +kernel, by decide +kernel⟩, List.mem_of_getElem? (i := 351) (by decide +kernel), List.mem_of_getElem? (i := 1626) (by decide +kernel), List.mem_of_getElem? (i := 1627) (by decide +kernel)⟩
theorem lw_p61 : lw_okq (⟨"CircuitCycles$Machine", "settle", "(LCircuitCycles$Circuit;)V"⟩, 5) := ⟨⟨by decide +kernel, by decide +kernel⟩, List.mem_of_getElem? (i := 328) (by decide +kernel), List.mem_of_getElem? (i := 1692) (by decide +kernel), List.mem_of_getElem? (i := 1693) (by decide +kernel)⟩
theorem lw_p62 : lw_okq (⟨"CircuitCycles$Machine", "run", "(LCircuitCycles$Code;III)J"⟩, 5) := ⟨⟨by decide +kernel, by decide +kernel⟩, List.mem_of_getElem? (i := 328) (by decide +kernel), List.mem_of_getElem? (i := 1696) (by decide +kernel), List.mem_of_getElem? (i := 1697) (by decide +kernel)⟩
theorem lw_p63 : lw_okq (⟨"CircuitCycles$Machine", "store", "(IIJ)V"⟩, 5) := ⟨⟨by decide +kernel, by decide +kernel⟩, List.mem_of_getElem? (i := 328) (by decide +kernel), List.mem_of_getElem? (i := 1728) (by decide +kernel), List.mem_of_getElem? (i := 1729) (by decide +kernel)⟩
def lw_privs_4 : List (MethodName × Nat) := [(⟨"CircuitCycles$Circuit", "ownSignals", "(I)I"⟩, 14), (⟨"CircuitCycles$Circuit", "laySignals", "(I)V"⟩, 14), (⟨"CircuitCycles$Circuit", "layLinks", "(I)V"⟩, 14), (⟨"CircuitCycles$Order", "visit", "(I)V"⟩, 10), (⟨"CircuitCycles$Order", "enter", "(I)V"⟩, 10), (⟨"CircuitCycles$Order", "nextNeeded", "(I)I"⟩, 10), (⟨"CircuitCycles$Order", "leave", "(I)V"⟩, 10), (⟨"CircuitCycles$Order", "append", "(I)V"⟩, 10), (⟨"CircuitCycles$Circuit", "isSignal", "(I)Z"⟩, 14), (⟨"java/lang/Throwable", "fillInStackTrace", "(I)Ljava/lang/Throwable;"⟩, 6), (⟨"CircuitCycles", "append", "(I)V"⟩, 11), (⟨"CircuitCycles$Circuit", "childCalled", "(I[BII)I"⟩, 14), (⟨"CircuitCycles$Circuit", "signalCalled", "(I[BII)I"⟩, 14), (⟨"CircuitCycles$Machine", "settle", "(LCircuitCycles$Circuit;)V"⟩, 5), (⟨"CircuitCycles$Machine", "run", "(LCircuitCycles$Code;III)J"⟩, 5), (⟨"CircuitCycles$Machine", "store", "(IIJ)V"⟩, 5)]
theorem lw_r4 : ∀ q ∈ lw_privs_4, lw_okq q := List.forall_mem_cons.mpr ⟨lw_p48, List.forall_mem_cons.mpr ⟨lw_p49, List.forall_mem_cons.mpr ⟨lw_p50, List.forall_mem_cons.mpr ⟨lw_p51, List.forall_mem_cons.mpr ⟨lw_p52, List.forall_mem_cons.mpr ⟨lw_p53, List.forall_mem_cons.mpr ⟨lw_p54, List.forall_mem_cons.mpr ⟨lw_p55, List.forall_mem_cons.mpr ⟨lw_p56, List.forall_mem_cons.mpr ⟨lw_p57, List.forall_mem_cons.mpr ⟨lw_p58, List.forall_mem_cons.mpr ⟨lw_p59, List.forall_mem_cons.mpr ⟨lw_p60, List.forall_mem_cons.mpr ⟨lw_p61, List.forall_mem_cons.mpr ⟨lw_p62, List.forall_mem_cons.mpr ⟨lw_p63, fun _ h => absurd h List.not_mem_nil⟩⟩⟩⟩⟩⟩⟩⟩⟩⟩⟩⟩⟩⟩⟩⟩
theorem lw_p64 : lw_okq (⟨"CircuitCycles$Machine", "runPieces", "(LCircuitCycles$Circuit;I)I"⟩, 5) := ⟨⟨by decide +kernel, by decide +kernel⟩, List.mem_of_getElem? (i := 328) (by decide +kernel), List.mem_of_getElem? (i := 1733) (by decide +kernel), List.mem_of_getElem? (i := 1734) (by decide +kernel)⟩
theorem lw_p65 : lw_okq (⟨"CircuitCyclesModel", "readSource", "()V"⟩, 91) := ⟨⟨by decide +kernel, by decide +kernel⟩, List.mem_of_getElem? (i := 1763) (by decide +kernel), List.mem_of_getElem? (i := 2054) (by decide +kernel), List.mem_of_getElem? (i := 2055) (by decide +kernel)⟩
theorem lw_p66 : lw_okq (⟨"CircuitCyclesModel", "cutTokens", "()V"⟩, 91) := ⟨⟨by decide +kernel, by decide +kernel⟩, List.mem_of_getElem? (i := 1763) (by decide +kernel), List.mem_of_getElem? (i := 2058) (by decide +kernel), List.mem_of_getElem? (i := 2059) (by decide +kernel)⟩
theorem lw_p67 : lw_okq (⟨"CircuitCyclesModel", "skip", "(I)I"⟩, 91) := ⟨⟨by decide +kernel, by decide +kernel⟩, List.mem_of_getElem? (i := 1763) (by decide +kernel), List.mem_of_getElem? (i := 2062) (by decide +kernel), List.mem_of_getElem? (i := 2063) (by decide +kernel)⟩
theorem lw_p68 : lw_okq (⟨"CircuitCyclesModel", "at", "(I)I"⟩, 91) := ⟨⟨by decide +kernel, by decide +kernel⟩, List.mem_of_getElem? (i := 1763) (by decide +kernel), List.mem_of_getElem? (i := 2066) (by decide +kernel), List.mem_of_getElem? (i := 2067) (by decide +kernel)⟩
theorem lw_p69 : lw_okq (⟨"CircuitCyclesModel", "token", "(III)V"⟩, 91) := ⟨⟨by decide +kernel, by decide +kernel⟩, List.mem_of_getElem? (i := 1763) (by decide +kernel), List.mem_of_getElem? (i := 2070) (by decide +kernel), List.mem_of_getElem? (i := 2071) (by decide +kernel)⟩
theorem lw_p70 : lw_okq (⟨"CircuitCyclesModel", "wordKind", "(II)I"⟩, 91) := ⟨⟨by decide +kernel, by decide +kernel⟩, List.mem_of_getElem? (i := 1763) (by decide +kernel), List.mem_of_getElem? (i := 2083) (by decide +kernel), List.mem_of_getElem? (i := 2084) (by decide +kernel)⟩
theorem lw_p71 : lw_okq (⟨"CircuitCyclesModel", "numberEnd", "(I)I"⟩, 91) := ⟨⟨by decide +kernel, by decide +kernel⟩, List.mem_of_getElem? (i := 1763) (by decide +kernel), List.mem_of_getElem? (i := 2089) (by decide +kernel), List.mem_of_getElem? (i := 2090) (by decide +kernel)⟩
theorem lw_p72 : lw_okq (⟨"CircuitCyclesModel", "numberKind", "(II)I"⟩, 91) := ⟨⟨by decide +kernel, by decide +kernel⟩, List.mem_of_getElem? (i := 1763) (by decide +kernel), List.mem_of_getElem? (i := 2093) (by decide +kernel), List.mem_of_getElem? (i := 2094) (by decide +kernel)⟩
theorem lw_p73 : lw_okq (⟨"CircuitCyclesModel", "read", "(IIII)J"⟩, 91) := ⟨⟨by decide +kernel, by decide +kernel⟩, List.mem_of_getElem? (i := 1763) (by decide +kernel), List.mem_of_getElem? (i := 2097) (by decide +kernel), List.mem_of_getElem? (i := 2098) (by decide +kernel)⟩
theorem lw_p74 : lw_okq (⟨"CircuitCyclesModel", "designGrammar", "()V"⟩, 91) := ⟨⟨by decide +kernel, by decide +kernel⟩, List.mem_of_getElem? (i := 1763) (by decide +kernel), List.mem_of_getElem? (i := 2112) (by decide +kernel), List.mem_of_getElem? (i := 2113) (by decide +kernel)⟩
theorem lw_p75 : lw_okq (⟨"CircuitCyclesModel", "take", "(I)V"⟩, 91) := ⟨⟨by decide +kernel, by decide +kernel⟩, List.mem_of_getElem? (i := 1763) (by decide +kernel), List.mem_of_getElem? (i := 2116) (by decide +kernel), List.mem_of_getElem? (i := 2117) (by decide +kernel)⟩
theorem lw_p76 : lw_okq (⟨"CircuitCyclesModel", "no", "()V"⟩, 91) := ⟨⟨by decide +kernel, by decide +kernel⟩, List.mem_of_getElem? (i := 1763) (by decide +kernel), List.mem_of_getElem? (i := 2120) (by decide +kernel), List.mem_of_getElem? (i := 2121) (by decide +kernel)⟩
theorem lw_p77 : lw_okq (⟨"CircuitCyclesModel", "fail", "(II)V"⟩, 91) := ⟨⟨by decide +kernel, by decide +kernel⟩, List.mem_of_getElem? (i := 1763) (by decide +kernel), List.mem_of_getElem? (i := 2124) (by decide +kernel), List.mem_of_getElem? (i := 2125) (by decide +kernel)⟩
theorem lw_p78 : lw_okq (⟨"CircuitCyclesModel", "open", "(I)V"⟩, 91) := ⟨⟨by decide +kernel, by decide +kernel⟩, List.mem_of_getElem? (i := 1763) (by decide +kernel), List.mem_of_getElem? (i := 2128) (by decide +kernel), List.mem_of_getElem? (i := 2129) (by decide +kernel)⟩
theorem lw_p79 : lw_okq (⟨"CircuitCyclesModel", "is", "(I)Z"⟩, 91) := ⟨⟨by decide +kernel, by decide +kernel⟩, List.mem_of_getElem? (i := 1763) (by decide +kernel), List.mem_of_getElem? (i := 2132) (by decide +kernel), List.mem_of_getElem? (i := 2133) (by decide +kernel)⟩
def lw_privs_5 : List (MethodName × Nat) := [(⟨"CircuitCycles$Machine", "runPieces", "(LCircuitCycles$Circuit;I)I"⟩, 5), (⟨"CircuitCyclesModel", "readSource", "()V"⟩, 91), (⟨"CircuitCyclesModel", "cutTokens", "()V"⟩, 91), (⟨"CircuitCyclesModel", "skip", "(I)I"⟩, 91), (⟨"CircuitCyclesModel", "at", "(I)I"⟩, 91), (⟨"CircuitCyclesModel", "token", "(III)V"⟩, 91), (⟨"CircuitCyclesModel", "wordKind", "(II)I"⟩, 91), (⟨"CircuitCyclesModel", "numberEnd", "(I)I"⟩, 91), (⟨"CircuitCyclesModel", "numberKind", "(II)I"⟩, 91), (⟨"CircuitCyclesModel", "read", "(IIII)J"⟩, 91), (⟨"CircuitCyclesModel", "designGrammar", "()V"⟩, 91), (⟨"CircuitCyclesModel", "take", "(I)V"⟩, 91), (⟨"CircuitCyclesModel", "no", "()V"⟩, 91), (⟨"CircuitCyclesModel", "fail", "(II)V"⟩, 91), (⟨"CircuitCyclesModel", "open", "(I)V"⟩, 91), (⟨"CircuitCyclesModel", "is", "(I)Z"⟩, 91)]
theorem lw_r5 : ∀ q ∈ lw_privs_5, lw_okq q := List.forall_mem_cons.mpr ⟨lw_p64, List.forall_mem_cons.mpr ⟨lw_p65, List.forall_mem_cons.mpr ⟨lw_p66, List.forall_mem_cons.mpr ⟨lw_p67, List.forall_mem_cons.mpr ⟨lw_p68, List.forall_mem_cons.mpr ⟨lw_p69, List.forall_mem_cons.mpr ⟨lw_p70, List.forall_mem_cons.mpr ⟨lw_p71, List.forall_mem_cons.mpr ⟨lw_p72, List.forall_mem_cons.mpr ⟨lw_p73, List.forall_mem_cons.mpr ⟨lw_p74, List.forall_mem_cons.mpr ⟨lw_p75, List.forall_mem_cons.mpr ⟨lw_p76, List.forall_mem_cons.mpr ⟨lw_p77, List.forall_mem_cons.mpr ⟨lw_p78, List.forall_mem_cons.mpr ⟨lw_p79, fun _ h => absurd h List.not_mem_nil⟩⟩⟩⟩⟩⟩⟩⟩⟩⟩⟩⟩⟩⟩⟩⟩
theorem lw_p80 : lw_okq (⟨"CircuitCyclesModel", "portGrammar", "()V"⟩, 91) := ⟨⟨by decide +kernel, by decide +kernel⟩, List.mem_of_getElem? (i := 1763) (by decide +kernel), List.mem_of_getElem? (i := 2136) (by decide +kernel), List.mem_of_getElem? (i := 2137) (by decide +kernel)⟩
theorem lw_p81 : lw_okq (⟨"CircuitCyclesModel", "rangeGrammar", "()V"⟩, 91) := ⟨⟨by decide +kernel, by decide +kernel⟩, List.mem_of_getElem? (i := 1763) (by decide +kernel), List.mem_of_getElem? (i := 2140) (by decide +kernel), List.mem_of_getElem? (i := 2141) (by decide +kernel)⟩
theorem lw_p82 : lw_okq (⟨"CircuitCyclesModel", "shut", "(I)V"⟩, 91) := ⟨⟨by decide +kernel, by decide +kernel⟩, List.mem_of_getElem? (i := 1763) (by decide +kernel), List.mem_of_getElem? (i := 2144) (by decide +kernel), List.mem_of_getElem? (i := 2145) (by decide +kernel)⟩
theorem lw_p83 : lw_okq (⟨"CircuitCyclesModel", "beginGrammar", "()V"⟩, 91) := ⟨⟨by decide +kernel, by decide +kernel⟩, List.mem_of_getElem? (i := 1763) (by decide +kernel), List.mem_of_getElem? (i := 2148) (by decide +kernel), List.mem_of_getElem? (i := 2149) (by decide +kernel)⟩
theorem lw_p84 : lw_okq (⟨"CircuitCyclesModel", "kind", "()I"⟩, 91) := ⟨⟨by decide +kernel, by decide +kernel⟩, List.mem_of_getElem? (i := 1763) (by decide +kernel), List.mem_of_getElem? (i := 2152) (by decide +kernel), List.mem_of_getElem? (i := 2153) (by decide +kernel)⟩
theorem lw_p85 : lw_okq (⟨"CircuitCyclesModel", "itemGrammar", "()V"⟩, 91) := ⟨⟨by decide +kernel, by decide +kernel⟩, List.mem_of_getElem? (i := 1763) (by decide +kernel), List.mem_of_getElem? (i := 2156) (by decide +kernel), List.mem_of_getElem? (i := 2157) (by decide +kernel)⟩
theorem lw_p86 : lw_okq (⟨"CircuitCyclesModel", "expGrammar", "()V"⟩, 91) := ⟨⟨by decide +kernel, by decide +kernel⟩, List.mem_of_getElem? (i := 1763) (by decide +kernel), List.mem_of_getElem? (i := 2160) (by decide +kernel), List.mem_of_getElem? (i := 2161) (by decide +kernel)⟩
theorem lw_p87 : lw_okq (⟨"CircuitCyclesModel", "operandGrammar", "()V"⟩, 91) := ⟨⟨by decide +kernel, by decide +kernel⟩, List.mem_of_getElem? (i := 1763) (by decide +kernel), List.mem_of_getElem? (i := 2164) (by decide +kernel), List.mem_of_getElem? (i := 2165) (by decide +kernel)⟩
theorem lw_p88 : lw_okq (⟨"CircuitCyclesModel", "partGrammar", "()V"⟩, 91) := ⟨⟨by decide +kernel, by decide +kernel⟩, List.mem_of_getElem? (i := 1763) (by decide +kernel), List.mem_of_getElem? (i := 2171) (by decide +kernel), List.mem_of_getElem? (i := 2172) (by decide +kernel)⟩
theorem lw_p89 : lw_okq (⟨"CircuitCyclesModel", "bracesGrammar", "()V"⟩, 91) := ⟨⟨by decide +kernel, by decide +kernel⟩, List.mem_of_getElem? (i := 1763) (by decide +kernel), List.mem_of_getElem? (i := 2175) (by decide +kernel), List.mem_of_getElem? (i := 2176) (by decide +kernel)⟩
theorem lw_p90 : lw_okq (⟨"CircuitCyclesModel", "statementGrammar", "()V"⟩, 91) := ⟨⟨by decide +kernel, by decide +kernel⟩, List.mem_of_getElem? (i := 1763) (by decide +kernel), List.mem_of_getElem? (i := 2182) (by decide +kernel), List.mem_of_getElem? (i := 2183) (by decide +kernel)⟩
theorem lw_p91 : lw_okq (⟨"CircuitCyclesModel", "caseGrammar", "()V"⟩, 91) := ⟨⟨by decide +kernel, by decide +kernel⟩, List.mem_of_getElem? (i := 1763) (by decide +kernel), List.mem_of_getElem? (i := 2186) (by decide +kernel), List.mem_of_getElem? (i := 2187) (by decide +kernel)⟩
theorem lw_p92 : lw_okq (⟨"CircuitCyclesModel", "linkGrammar", "()V"⟩, 91) := ⟨⟨by decide +kernel, by decide +kernel⟩, List.mem_of_getElem? (i := 1763) (by decide +kernel), List.mem_of_getElem? (i := 2190) (by decide +kernel), List.mem_of_getElem? (i := 2191) (by decide +kernel)⟩
theorem lw_p93 : lw_okq (⟨"CircuitCyclesModel", "design", "()V"⟩, 91) := ⟨⟨by decide +kernel, by decide +kernel⟩, List.mem_of_getElem? (i := 1763) (by decide +kernel), List.mem_of_getElem? (i := 2194) (by decide +kernel), List.mem_of_getElem? (i := 2195) (by decide +kernel)⟩
theorem lw_p94 : lw_okq (⟨"CircuitCyclesModel", "module", "()V"⟩, 91) := ⟨⟨by decide +kernel, by decide +kernel⟩, List.mem_of_getElem? (i := 1763) (by decide +kernel), List.mem_of_getElem? (i := 2198) (by decide +kernel), List.mem_of_getElem? (i := 2199) (by decide +kernel)⟩
theorem lw_p95 : lw_okq (⟨"CircuitCyclesModel", "moduleNamed", "(II)I"⟩, 91) := ⟨⟨by decide +kernel, by decide +kernel⟩, List.mem_of_getElem? (i := 1763) (by decide +kernel), List.mem_of_getElem? (i := 2202) (by decide +kernel), List.mem_of_getElem? (i := 2203) (by decide +kernel)⟩
def lw_privs_6 : List (MethodName × Nat) := [(⟨"CircuitCyclesModel", "portGrammar", "()V"⟩, 91), (⟨"CircuitCyclesModel", "rangeGrammar", "()V"⟩, 91), (⟨"CircuitCyclesModel", "shut", "(I)V"⟩, 91), (⟨"CircuitCyclesModel", "beginGrammar", "()V"⟩, 91), (⟨"CircuitCyclesModel", "kind", "()I"⟩, 91), (⟨"CircuitCyclesModel", "itemGrammar", "()V"⟩, 91), (⟨"CircuitCyclesModel", "expGrammar", "()V"⟩, 91), (⟨"CircuitCyclesModel", "operandGrammar", "()V"⟩, 91), (⟨"CircuitCyclesModel", "partGrammar", "()V"⟩, 91), (⟨"CircuitCyclesModel", "bracesGrammar", "()V"⟩, 91), (⟨"CircuitCyclesModel", "statementGrammar", "()V"⟩, 91), (⟨"CircuitCyclesModel", "caseGrammar", "()V"⟩, 91), (⟨"CircuitCyclesModel", "linkGrammar", "()V"⟩, 91), (⟨"CircuitCyclesModel", "design", "()V"⟩, 91), (⟨"CircuitCyclesModel", "module", "()V"⟩, 91), (⟨"CircuitCyclesModel", "moduleNamed", "(II)I"⟩, 91)]
theorem lw_r6 : ∀ q ∈ lw_privs_6, lw_okq q := List.forall_mem_cons.mpr ⟨lw_p80, List.forall_mem_cons.mpr ⟨lw_p81, List.forall_mem_cons.mpr ⟨lw_p82, List.forall_mem_cons.mpr ⟨lw_p83, List.forall_mem_cons.mpr ⟨lw_p84, List.forall_mem_cons.mpr ⟨lw_p85, List.forall_mem_cons.mpr ⟨lw_p86, List.forall_mem_cons.mpr ⟨lw_p87, List.forall_mem_cons.mpr ⟨lw_p88, List.forall_mem_cons.mpr ⟨lw_p89, List.forall_mem_cons.mpr ⟨lw_p90, List.forall_mem_cons.mpr ⟨lw_p91, List.forall_mem_cons.mpr ⟨lw_p92, List.forall_mem_cons.mpr ⟨lw_p93, List.forall_mem_cons.mpr ⟨lw_p94, List.forall_mem_cons.mpr ⟨lw_p95, fun _ h => absurd h List.not_mem_nil⟩⟩⟩⟩⟩⟩⟩⟩⟩⟩⟩⟩⟩⟩⟩⟩
theorem lw_p96 : lw_okq (⟨"CircuitCyclesModel", "sameToken", "(II)Z"⟩, 91) := ⟨⟨by decide +kernel, by decide +kernel⟩, List.mem_of_getElem? (i := 1763) (by decide +kernel), List.mem_of_getElem? (i := 2206) (by decide +kernel), List.mem_of_getElem? (i := 2207) (by decide +kernel)⟩
theorem lw_p97 : lw_okq (⟨"CircuitCyclesModel", "port", "()V"⟩, 91) := ⟨⟨by decide +kernel, by decide +kernel⟩, List.mem_of_getElem? (i := 1763) (by decide +kernel), List.mem_of_getElem? (i := 2210) (by decide +kernel), List.mem_of_getElem? (i := 2211) (by decide +kernel)⟩
theorem lw_p98 : lw_okq (⟨"CircuitCyclesModel", "range", "()I"⟩, 91) := ⟨⟨by decide +kernel, by decide +kernel⟩, List.mem_of_getElem? (i := 1763) (by decide +kernel), List.mem_of_getElem? (i := 2214) (by decide +kernel), List.mem_of_getElem? (i := 2215) (by decide +kernel)⟩
theorem lw_p99 : lw_okq (⟨"CircuitCyclesModel", "numberOf", "(I)J"⟩, 91) := ⟨⟨by decide +kernel, by decide +kernel⟩, List.mem_of_getElem? (i := 1763) (by decide +kernel), List.mem_of_getElem? (i := 2218) (by decide +kernel), List.mem_of_getElem? (i := 2219) (by decide +kernel)⟩
theorem lw_p100 : lw_okq (⟨"CircuitCyclesModel", "declare", "(II)V"⟩, 91) := ⟨⟨by decide +kernel, by decide +kernel⟩, List.mem_of_getElem? (i := 1763) (by decide +kernel), List.mem_of_getElem? (i := 2223) (by decide +kernel), List.mem_of_getElem? (i := 2224) (by decide +kernel)⟩
theorem lw_p101 : lw_okq (⟨"CircuitCyclesModel", "here", "(I)I"⟩, 91) := ⟨⟨by decide +kernel, by decide +kernel⟩, List.mem_of_getElem? (i := 1763) (by decide +kernel), List.mem_of_getElem? (i := 2227) (by decide +kernel), List.mem_of_getElem? (i := 2228) (by decide +kernel)⟩
theorem lw_p102 : lw_okq (⟨"CircuitCyclesModel", "signalNamed", "(III)I"⟩, 91) := ⟨⟨by decide +kernel, by decide +kernel⟩, List.mem_of_getElem? (i := 1763) (by decide +kernel), List.mem_of_getElem? (i := 2231) (by decide +kernel), List.mem_of_getElem? (i := 2232) (by decide +kernel)⟩
theorem lw_p103 : lw_okq (⟨"CircuitCyclesModel", "isInstanceName", "(I)Z"⟩, 91) := ⟨⟨by decide +kernel, by decide +kernel⟩, List.mem_of_getElem? (i := 1763) (by decide +kernel), List.mem_of_getElem? (i := 2235) (by decide +kernel), List.mem_of_getElem? (i := 2236) (by decide +kernel)⟩
theorem lw_p104 : lw_okq (⟨"CircuitCyclesModel", "widthOfNumber", "(I)I"⟩, 91) := ⟨⟨by decide +kernel, by decide +kernel⟩, List.mem_of_getElem? (i := 1763) (by decide +kernel), List.mem_of_getElem? (i := 2239) (by decide +kernel), List.mem_of_getElem? (i := 2240) (by decide +kernel)⟩
theorem lw_p105 : lw_okq (⟨"CircuitCyclesModel", "item", "()V"⟩, 91) := ⟨⟨by decide +kernel, by decide +kernel⟩, List.mem_of_getElem? (i := 1763) (by decide +kernel), List.mem_of_getElem? (i := 2243) (by decide +kernel), List.mem_of_getElem? (i := 2244) (by decide +kernel)⟩
theorem lw_p106 : lw_okq (⟨"CircuitCyclesModel", "assign", "()V"⟩, 91) := ⟨⟨by decide +kernel, by decide +kernel⟩, List.mem_of_getElem? (i := 1763) (by decide +kernel), List.mem_of_getElem? (i := 2247) (by decide +kernel), List.mem_of_getElem? (i := 2248) (by decide +kernel)⟩
theorem lw_p107 : lw_okq (⟨"CircuitCyclesModel", "isDriven", "(I)Z"⟩, 91) := ⟨⟨by decide +kernel, by decide +kernel⟩, List.mem_of_getElem? (i := 1763) (by decide +kernel), List.mem_of_getElem? (i := 2251) (by decide +kernel), List.mem_of_getElem? (i := 2252) (by decide +kernel)⟩
theorem lw_p108 : lw_okq (⟨"CircuitCyclesModel", "exp", "()I"⟩, 91) := ⟨⟨by decide +kernel, by decide +kernel⟩, List.mem_of_getElem? (i := 1763) (by decide +kernel), List.mem_of_getElem? (i := 2255) (by decide +kernel), List.mem_of_getElem? (i := 2256) (by decide +kernel)⟩
theorem lw_p109 : lw_okq (⟨"CircuitCyclesModel", "binary", "()I"⟩, 91) := ⟨⟨by decide +kernel, by decide +kernel⟩, List.mem_of_getElem? (i := 1763) (by decide +kernel), List.mem_of_getElem? (i := 2259) (by decide +kernel), List.mem_of_getElem? (i := 2260) (by decide +kernel)⟩
theorem lw_p110 : lw_okq (⟨"CircuitCyclesModel", "operand", "()I"⟩, 91) := ⟨⟨by decide +kernel, by decide +kernel⟩, List.mem_of_getElem? (i := 1763) (by decide +kernel), List.mem_of_getElem? (i := 2263) (by decide +kernel), List.mem_of_getElem? (i := 2264) (by decide +kernel)⟩
theorem lw_p111 : lw_okq (⟨"CircuitCyclesModel", "primary", "()I"⟩, 91) := ⟨⟨by decide +kernel, by decide +kernel⟩, List.mem_of_getElem? (i := 1763) (by decide +kernel), List.mem_of_getElem? (i := 2267) (by decide +kernel), List.mem_of_getElem? (i := 2268) (by decide +kernel)⟩
def lw_privs_7 : List (MethodName × Nat) := [(⟨"CircuitCyclesModel", "sameToken", "(II)Z"⟩, 91), (⟨"CircuitCyclesModel", "port", "()V"⟩, 91), (⟨"CircuitCyclesModel", "range", "()I"⟩, 91), (⟨"CircuitCyclesModel", "numberOf", "(I)J"⟩, 91), (⟨"CircuitCyclesModel", "declare", "(II)V"⟩, 91), (⟨"CircuitCyclesModel", "here", "(I)I"⟩, 91), (⟨"CircuitCyclesModel", "signalNamed", "(III)I"⟩, 91), (⟨"CircuitCyclesModel", "isInstanceName", "(I)Z"⟩, 91), (⟨"CircuitCyclesModel", "widthOfNumber", "(I)I"⟩, 91), (⟨"CircuitCyclesModel", "item", "()V"⟩, 91), (⟨"CircuitCyclesModel", "assign", "()V"⟩, 91), (⟨"CircuitCyclesModel", "isDriven", "(I)Z"⟩, 91), (⟨"CircuitCyclesModel", "exp", "()I"⟩, 91), (⟨"CircuitCyclesModel", "binary", "()I"⟩, 91), (⟨"CircuitCyclesModel", "operand", "()I"⟩, 91), (⟨"CircuitCyclesModel", "primary", "()I"⟩, 91)]
theorem lw_r7 : ∀ q ∈ lw_privs_7, lw_okq q := List.forall_mem_cons.mpr ⟨lw_p96, List.forall_mem_cons.mpr ⟨lw_p97, List.forall_mem_cons.mpr ⟨lw_p98, List.forall_mem_cons.mpr ⟨lw_p99, List.forall_mem_cons.mpr ⟨lw_p100, List.forall_mem_cons.mpr ⟨lw_p101, List.forall_mem_cons.mpr ⟨lw_p102, List.forall_mem_cons.mpr ⟨lw_p103, List.forall_mem_cons.mpr ⟨lw_p104, List.forall_mem_cons.mpr ⟨lw_p105, List.forall_mem_cons.mpr ⟨lw_p106, List.forall_mem_cons.mpr ⟨lw_p107, List.forall_mem_cons.mpr ⟨lw_p108, List.forall_mem_cons.mpr ⟨lw_p109, List.forall_mem_cons.mpr ⟨lw_p110, List.forall_mem_cons.mpr ⟨lw_p111, fun _ h => absurd h List.not_mem_nil⟩⟩⟩⟩⟩⟩⟩⟩⟩⟩⟩⟩⟩⟩⟩⟩
theorem lw_p112 : lw_okq (⟨"CircuitCyclesModel", "keepNumber", "(J)I"⟩, 91) := ⟨⟨by decide +kernel, by decide +kernel⟩, List.mem_of_getElem? (i := 1763) (by decide +kernel), List.mem_of_getElem? (i := 2271) (by decide +kernel), List.mem_of_getElem? (i := 2272) (by decide +kernel)⟩
theorem lw_p113 : lw_okq (⟨"CircuitCyclesModel", "lay", "(III)V"⟩, 91) := ⟨⟨by decide +kernel, by decide +kernel⟩, List.mem_of_getElem? (i := 1763) (by decide +kernel), List.mem_of_getElem? (i := 2275) (by decide +kernel), List.mem_of_getElem? (i := 2276) (by decide +kernel)⟩
theorem lw_p114 : lw_okq (⟨"CircuitCyclesModel", "braces", "(I)I"⟩, 91) := ⟨⟨by decide +kernel, by decide +kernel⟩, List.mem_of_getElem? (i := 1763) (by decide +kernel), List.mem_of_getElem? (i := 2279) (by decide +kernel), List.mem_of_getElem? (i := 2280) (by decide +kernel)⟩
theorem lw_p115 : lw_okq (⟨"CircuitCyclesModel", "part", "(I)I"⟩, 91) := ⟨⟨by decide +kernel, by decide +kernel⟩, List.mem_of_getElem? (i := 1763) (by decide +kernel), List.mem_of_getElem? (i := 2283) (by decide +kernel), List.mem_of_getElem? (i := 2284) (by decide +kernel)⟩
theorem lw_p116 : lw_okq (⟨"CircuitCyclesModel", "cost", "(J)V"⟩, 91) := ⟨⟨by decide +kernel, by decide +kernel⟩, List.mem_of_getElem? (i := 1763) (by decide +kernel), List.mem_of_getElem? (i := 2287) (by decide +kernel), List.mem_of_getElem? (i := 2288) (by decide +kernel)⟩
theorem lw_p117 : lw_okq (⟨"CircuitCyclesModel", "pushWidth", "(I)V"⟩, 91) := ⟨⟨by decide +kernel, by decide +kernel⟩, List.mem_of_getElem? (i := 1763) (by decide +kernel), List.mem_of_getElem? (i := 2291) (by decide +kernel), List.mem_of_getElem? (i := 2292) (by decide +kernel)⟩
theorem lw_p118 : lw_okq (⟨"CircuitCyclesModel", "reckon", "()V"⟩, 91) := ⟨⟨by decide +kernel, by decide +kernel⟩, List.mem_of_getElem? (i := 1763) (by decide +kernel), List.mem_of_getElem? (i := 2295) (by decide +kernel), List.mem_of_getElem? (i := 2296) (by decide +kernel)⟩
theorem lw_p119 : lw_okq (⟨"CircuitCyclesModel", "statement", "()V"⟩, 91) := ⟨⟨by decide +kernel, by decide +kernel⟩, List.mem_of_getElem? (i := 1763) (by decide +kernel), List.mem_of_getElem? (i := 2299) (by decide +kernel), List.mem_of_getElem? (i := 2300) (by decide +kernel)⟩
theorem lw_p120 : lw_okq (⟨"CircuitCyclesModel", "caseOf", "()V"⟩, 91) := ⟨⟨by decide +kernel, by decide +kernel⟩, List.mem_of_getElem? (i := 1763) (by decide +kernel), List.mem_of_getElem? (i := 2303) (by decide +kernel), List.mem_of_getElem? (i := 2304) (by decide +kernel)⟩
theorem lw_p121 : lw_okq (⟨"CircuitCyclesModel", "patch", "(I)V"⟩, 91) := ⟨⟨by decide +kernel, by decide +kernel⟩, List.mem_of_getElem? (i := 1763) (by decide +kernel), List.mem_of_getElem? (i := 2307) (by decide +kernel), List.mem_of_getElem? (i := 2308) (by decide +kernel)⟩
theorem lw_p122 : lw_okq (⟨"CircuitCyclesModel", "setting", "()V"⟩, 91) := ⟨⟨by decide +kernel, by decide +kernel⟩, List.mem_of_getElem? (i := 1763) (by decide +kernel), List.mem_of_getElem? (i := 2311) (by decide +kernel), List.mem_of_getElem? (i := 2312) (by decide +kernel)⟩
theorem lw_p123 : lw_okq (⟨"CircuitCyclesModel", "isRegister", "(I)Z"⟩, 91) := ⟨⟨by decide +kernel, by decide +kernel⟩, List.mem_of_getElem? (i := 1763) (by decide +kernel), List.mem_of_getElem? (i := 2315) (by decide +kernel), List.mem_of_getElem? (i := 2316) (by decide +kernel)⟩
theorem lw_p124 : lw_okq (⟨"CircuitCyclesModel", "instance", "()V"⟩, 91) := ⟨⟨by decide +kernel, by decide +kernel⟩, List.mem_of_getElem? (i := 1763) (by decide +kernel), List.mem_of_getElem? (i := 2319) (by decide +kernel), List.mem_of_getElem? (i := 2320) (by decide +kernel)⟩
theorem lw_p125 : lw_okq (⟨"CircuitCyclesModel", "link", "(I)V"⟩, 91) := ⟨⟨by decide +kernel, by decide +kernel⟩, List.mem_of_getElem? (i := 1763) (by decide +kernel), List.mem_of_getElem? (i := 2323) (by decide +kernel), List.mem_of_getElem? (i := 2324) (by decide +kernel)⟩
theorem lw_p126 : lw_okq (⟨"CircuitCyclesModel", "linkOf", "(III)I"⟩, 91) := ⟨⟨by decide +kernel, by decide +kernel⟩, List.mem_of_getElem? (i := 1763) (by decide +kernel), List.mem_of_getElem? (i := 2327) (by decide +kernel), List.mem_of_getElem? (i := 2328) (by decide +kernel)⟩
theorem lw_p127 : lw_okq (⟨"CircuitCyclesModel", "limits", "()V"⟩, 91) := ⟨⟨by decide +kernel, by decide +kernel⟩, List.mem_of_getElem? (i := 1763) (by decide +kernel), List.mem_of_getElem? (i := 2335) (by decide +kernel), List.mem_of_getElem? (i := 2336) (by decide +kernel)⟩
def lw_privs_8 : List (MethodName × Nat) := [(⟨"CircuitCyclesModel", "keepNumber", "(J)I"⟩, 91), (⟨"CircuitCyclesModel", "lay", "(III)V"⟩, 91), (⟨"CircuitCyclesModel", "braces", "(I)I"⟩, 91), (⟨"CircuitCyclesModel", "part", "(I)I"⟩, 91), (⟨"CircuitCyclesModel", "cost", "(J)V"⟩, 91), (⟨"CircuitCyclesModel", "pushWidth", "(I)V"⟩, 91), (⟨"CircuitCyclesModel", "reckon", "()V"⟩, 91), (⟨"CircuitCyclesModel", "statement", "()V"⟩, 91), (⟨"CircuitCyclesModel", "caseOf", "()V"⟩, 91), (⟨"CircuitCyclesModel", "patch", "(I)V"⟩, 91), (⟨"CircuitCyclesModel", "setting", "()V"⟩, 91), (⟨"CircuitCyclesModel", "isRegister", "(I)Z"⟩, 91), (⟨"CircuitCyclesModel", "instance", "()V"⟩, 91), (⟨"CircuitCyclesModel", "link", "(I)V"⟩, 91), (⟨"CircuitCyclesModel", "linkOf", "(III)I"⟩, 91), (⟨"CircuitCyclesModel", "limits", "()V"⟩, 91)]
theorem lw_r8 : ∀ q ∈ lw_privs_8, lw_okq q := List.forall_mem_cons.mpr ⟨lw_p112, List.forall_mem_cons.mpr ⟨lw_p113, List.forall_mem_cons.mpr ⟨lw_p114, List.forall_mem_cons.mpr ⟨lw_p115, List.forall_mem_cons.mpr ⟨lw_p116, List.forall_mem_cons.mpr ⟨lw_p117, List.forall_mem_cons.mpr ⟨lw_p118, List.forall_mem_cons.mpr ⟨lw_p119, List.forall_mem_cons.mpr ⟨lw_p120, List.forall_mem_cons.mpr ⟨lw_p121, List.forall_mem_cons.mpr ⟨lw_p122, List.forall_mem_cons.mpr ⟨lw_p123, List.forall_mem_cons.mpr ⟨lw_p124, List.forall_mem_cons.mpr ⟨lw_p125, List.forall_mem_cons.mpr ⟨lw_p126, List.forall_mem_cons.mpr ⟨lw_p127, fun _ h => absurd h List.not_mem_nil⟩⟩⟩⟩⟩⟩⟩⟩⟩⟩⟩⟩⟩⟩⟩⟩
theorem lw_p128 : lw_okq (⟨"CircuitCyclesModel", "bound", "(ZII)V"⟩, 91) := ⟨⟨by decide +kernel, by decide +kernel⟩, List.mem_of_getElem? (i := 1763) (by decide +kernel), List.mem_of_getElem? (i := 2342) (by decide +kernel), List.mem_of_getElem? (i := 2343) (by decide +kernel)⟩
theorem lw_p129 : lw_okq (⟨"CircuitCyclesModel", "writeOut", "()V"⟩, 91) := ⟨⟨by decide +kernel, by decide +kernel⟩, List.mem_of_getElem? (i := 1763) (by decide +kernel), List.mem_of_getElem? (i := 2351) (by decide +kernel), List.mem_of_getElem? (i := 2352) (by decide +kernel)⟩
theorem lw_p130 : lw_okq (⟨"CircuitCyclesModel", "begin", "(III)V"⟩, 91) := ⟨⟨by decide +kernel, by decide +kernel⟩, List.mem_of_getElem? (i := 1763) (by decide +kernel), List.mem_of_getElem? (i := 2355) (by decide +kernel), List.mem_of_getElem? (i := 2356) (by decide +kernel)⟩
theorem lw_p131 : lw_okq (⟨"CircuitCyclesModel", "findRule", "(I)V"⟩, 91) := ⟨⟨by decide +kernel, by decide +kernel⟩, List.mem_of_getElem? (i := 1763) (by decide +kernel), List.mem_of_getElem? (i := 2359) (by decide +kernel), List.mem_of_getElem? (i := 2360) (by decide +kernel)⟩
theorem lw_p132 : lw_okq (⟨"CircuitCyclesModel", "signalOf", "(II)I"⟩, 91) := ⟨⟨by decide +kernel, by decide +kernel⟩, List.mem_of_getElem? (i := 1763) (by decide +kernel), List.mem_of_getElem? (i := 2363) (by decide +kernel), List.mem_of_getElem? (i := 2364) (by decide +kernel)⟩
theorem lw_p133 : lw_okq (⟨"CircuitCyclesModel", "putInOrder", "()V"⟩, 91) := ⟨⟨by decide +kernel, by decide +kernel⟩, List.mem_of_getElem? (i := 1763) (by decide +kernel), List.mem_of_getElem? (i := 2367) (by decide +kernel), List.mem_of_getElem? (i := 2368) (by decide +kernel)⟩
theorem lw_p134 : lw_okq (⟨"CircuitCyclesModel", "canBe", "(I)Z"⟩, 91) := ⟨⟨by decide +kernel, by decide +kernel⟩, List.mem_of_getElem? (i := 1763) (by decide +kernel), List.mem_of_getElem? (i := 2371) (by decide +kernel), List.mem_of_getElem? (i := 2372) (by decide +kernel)⟩
theorem lw_p135 : lw_okq (⟨"CircuitCyclesModel", "dependsOnItself", "(I)Z"⟩, 91) := ⟨⟨by decide +kernel, by decide +kernel⟩, List.mem_of_getElem? (i := 1763) (by decide +kernel), List.mem_of_getElem? (i := 2375) (by decide +kernel), List.mem_of_getElem? (i := 2376) (by decide +kernel)⟩
theorem lw_p136 : lw_okq (⟨"CircuitCyclesModel", "sumUp", "()V"⟩, 91) := ⟨⟨by decide +kernel, by decide +kernel⟩, List.mem_of_getElem? (i := 1763) (by decide +kernel), List.mem_of_getElem? (i := 2379) (by decide +kernel), List.mem_of_getElem? (i := 2380) (by decide +kernel)⟩
theorem lw_p137 : lw_okq (⟨"CircuitCyclesModel", "begin0", "()V"⟩, 91) := ⟨⟨by decide +kernel, by decide +kernel⟩, List.mem_of_getElem? (i := 1763) (by decide +kernel), List.mem_of_getElem? (i := 2383) (by decide +kernel), List.mem_of_getElem? (i := 2384) (by decide +kernel)⟩
theorem lw_p138 : lw_okq (⟨"CircuitCyclesModel", "settle", "([J[J)V"⟩, 91) := ⟨⟨by decide +kernel, by decide +kernel⟩, List.mem_of_getElem? (i := 1763) (by decide +kernel), List.mem_of_getElem? (i := 2387) (by decide +kernel), List.mem_of_getElem? (i := 2388) (by decide +kernel)⟩
theorem lw_p139 : lw_okq (⟨"CircuitCyclesModel", "run", "(III)V"⟩, 91) := ⟨⟨by decide +kernel, by decide +kernel⟩, List.mem_of_getElem? (i := 1763) (by decide +kernel), List.mem_of_getElem? (i := 2391) (by decide +kernel), List.mem_of_getElem? (i := 2392) (by decide +kernel)⟩
theorem lw_p140 : lw_okq (⟨"CircuitCyclesModel", "push", "(J)V"⟩, 91) := ⟨⟨by decide +kernel, by decide +kernel⟩, List.mem_of_getElem? (i := 1763) (by decide +kernel), List.mem_of_getElem? (i := 2395) (by decide +kernel), List.mem_of_getElem? (i := 2396) (by decide +kernel)⟩
theorem lw_p141 : lw_okq (⟨"CircuitCyclesModel", "pop", "()J"⟩, 91) := ⟨⟨by decide +kernel, by decide +kernel⟩, List.mem_of_getElem? (i := 1763) (by decide +kernel), List.mem_of_getElem? (i := 2399) (by decide +kernel), List.mem_of_getElem? (i := 2400) (by decide +kernel)⟩
theorem lw_p142 : lw_okq (⟨"CircuitCyclesModel", "isNamed", "(I)Z"⟩, 91) := ⟨⟨by decide +kernel, by decide +kernel⟩, List.mem_of_getElem? (i := 1763) (by decide +kernel), List.mem_of_getElem? (i := 2437) (by decide +kernel), List.mem_of_getElem? (i := 2438) (by decide +kernel)⟩
theorem lw_p143 : lw_okq (⟨"CircuitCyclesModel", "goesOn", "(II)Z"⟩, 91) := ⟨⟨by decide +kernel, by decide +kernel⟩, List.mem_of_getElem? (i := 1763) (by decide +kernel), List.mem_of_getElem? (i := 2441) (by decide +kernel), List.mem_of_getElem? (i := 2442) (by decide +kernel)⟩
def lw_privs_9 : List (MethodName × Nat) := [(⟨"CircuitCyclesModel", "bound", "(ZII)V"⟩, 91), (⟨"CircuitCyclesModel", "writeOut", "()V"⟩, 91), (⟨"CircuitCyclesModel", "begin", "(III)V"⟩, 91), (⟨"CircuitCyclesModel", "findRule", "(I)V"⟩, 91), (⟨"CircuitCyclesModel", "signalOf", "(II)I"⟩, 91), (⟨"CircuitCyclesModel", "putInOrder", "()V"⟩, 91), (⟨"CircuitCyclesModel", "canBe", "(I)Z"⟩, 91), (⟨"CircuitCyclesModel", "dependsOnItself", "(I)Z"⟩, 91), (⟨"CircuitCyclesModel", "sumUp", "()V"⟩, 91), (⟨"CircuitCyclesModel", "begin0", "()V"⟩, 91), (⟨"CircuitCyclesModel", "settle", "([J[J)V"⟩, 91), (⟨"CircuitCyclesModel", "run", "(III)V"⟩, 91), (⟨"CircuitCyclesModel", "push", "(J)V"⟩, 91), (⟨"CircuitCyclesModel", "pop", "()J"⟩, 91), (⟨"CircuitCyclesModel", "isNamed", "(I)Z"⟩, 91), (⟨"CircuitCyclesModel", "goesOn", "(II)Z"⟩, 91)]
theorem lw_r9 : ∀ q ∈ lw_privs_9, lw_okq q := List.forall_mem_cons.mpr ⟨lw_p128, List.forall_mem_cons.mpr ⟨lw_p129, List.forall_mem_cons.mpr ⟨lw_p130, List.forall_mem_cons.mpr ⟨lw_p131, List.forall_mem_cons.mpr ⟨lw_p132, List.forall_mem_cons.mpr ⟨lw_p133, List.forall_mem_cons.mpr ⟨lw_p134, List.forall_mem_cons.mpr ⟨lw_p135, List.forall_mem_cons.mpr ⟨lw_p136, List.forall_mem_cons.mpr ⟨lw_p137, List.forall_mem_cons.mpr ⟨lw_p138, List.forall_mem_cons.mpr ⟨lw_p139, List.forall_mem_cons.mpr ⟨lw_p140, List.forall_mem_cons.mpr ⟨lw_p141, List.forall_mem_cons.mpr ⟨lw_p142, List.forall_mem_cons.mpr ⟨lw_p143, fun _ h => absurd h List.not_mem_nil⟩⟩⟩⟩⟩⟩⟩⟩⟩⟩⟩⟩⟩⟩⟩⟩
theorem lw_p144 : lw_okq (⟨"CircuitCyclesModel", "isSignal", "(I)Z"⟩, 91) := ⟨⟨by decide +kernel, by decide +kernel⟩, List.mem_of_getElem? (i := 1763) (by decide +kernel), List.mem_of_getElem? (i := 2449) (by decide +kernel), List.mem_of_getElem? (i := 2450) (by decide +kernel)⟩
theorem lw_p145 : lw_okq (⟨"CircuitCyclesModel", "kindOf", "(I)I"⟩, 91) := ⟨⟨by decide +kernel, by decide +kernel⟩, List.mem_of_getElem? (i := 1763) (by decide +kernel), List.mem_of_getElem? (i := 2453) (by decide +kernel), List.mem_of_getElem? (i := 2454) (by decide +kernel)⟩
theorem lw_p146 : lw_okq (⟨"CircuitCyclesModel", "goOn", "([J)V"⟩, 91) := ⟨⟨by decide +kernel, by decide +kernel⟩, List.mem_of_getElem? (i := 1763) (by decide +kernel), List.mem_of_getElem? (i := 2469) (by decide +kernel), List.mem_of_getElem? (i := 2470) (by decide +kernel)⟩
theorem lw_p147 : lw_okq (⟨"CircuitCyclesModel", "failingNow", "()I"⟩, 91) := ⟨⟨by decide +kernel, by decide +kernel⟩, List.mem_of_getElem? (i := 1763) (by decide +kernel), List.mem_of_getElem? (i := 2481) (by decide +kernel), List.mem_of_getElem? (i := 2482) (by decide +kernel)⟩
def lw_privs_10 : List (MethodName × Nat) := [(⟨"CircuitCyclesModel", "isSignal", "(I)Z"⟩, 91), (⟨"CircuitCyclesModel", "kindOf", "(I)I"⟩, 91), (⟨"CircuitCyclesModel", "goOn", "([J)V"⟩, 91), (⟨"CircuitCyclesModel", "failingNow", "()I"⟩, 91)]
theorem lw_r10 : ∀ q ∈ lw_privs_10, lw_okq q := List.forall_mem_cons.mpr ⟨lw_p144, List.forall_mem_cons.mpr ⟨lw_p145, List.forall_mem_cons.mpr ⟨lw_p146, List.forall_mem_cons.mpr ⟨lw_p147, fun _ h => absurd h List.not_mem_nil⟩⟩⟩⟩
def lw_privs : List (MethodName × Nat) := lw_privs_1 ++ (lw_privs_2 ++ (lw_privs_3 ++ (lw_privs_4 ++ (lw_privs_5 ++ (lw_privs_6 ++ (lw_privs_7 ++ (lw_privs_8 ++ (lw_privs_9 ++ (lw_privs_10)))))))))
def lw_tbl : List Cond := k2_sels lw_privs ++ tables_1
theorem lw_privs_ok : ∀ q ∈ lw_privs, lw_okq q := by
  show ∀ q ∈ lw_privs_1 ++ (lw_privs_2 ++ (lw_privs_3 ++ (lw_privs_4 ++ (lw_privs_5 ++ (lw_privs_6 ++ (lw_privs_7 ++ (lw_privs_8 ++ (lw_privs_9 ++ (lw_privs_10))))))))), lw_okq q
  exact List.forall_mem_append.mpr ⟨lw_r1, List.forall_mem_append.mpr ⟨lw_r2, List.forall_mem_append.mpr ⟨lw_r3, List.forall_mem_append.mpr ⟨lw_r4, List.forall_mem_append.mpr ⟨lw_r5, List.forall_mem_append.mpr ⟨lw_r6, List.forall_mem_append.mpr ⟨lw_r7, List.forall_mem_append.mpr ⟨lw_r8, List.forall_mem_append.mpr ⟨lw_r9, lw_r10⟩⟩⟩⟩⟩⟩⟩⟩⟩
end
section
/-! Short forms: one list of words for all methods; contracts over a world ws; their entry, their calls, their ends. -/
def xw_G : List Cond := lw_tbl.filter goodWord
theorem xw_good {w : Cond} (h : w ∈ xw_G) : (w.onTables && w.keeps) = true ∨ ∃ ty, w = .arrayClass ty := good_of_word (List.mem_filter.mp h).2
theorem xw_tab {w : Cond} (h : w ∈ tables_1) (g : goodWord w = true) : w ∈ xw_G := List.mem_filter.mpr ⟨List.mem_append_right _ h, g⟩
theorem xw_c1 {w : Cond} (h : w ∈ tables_1_1) (g : goodWord w = true) : w ∈ xw_G := xw_tab (List.mem_append_left _ h) g
theorem xw_c2 {w : Cond} (h : w ∈ tables_1_2) (g : goodWord w = true) : w ∈ xw_G := xw_tab (List.mem_append_right _ (List.mem_append_left _ h)) g
theorem xw_c3 {w : Cond} (h : w ∈ tables_1_3) (g : goodWord w = true) : w ∈ xw_G := xw_tab (List.mem_append_right _ (List.mem_append_right _ (List.mem_append_left _ h))) g
theorem xw_c4 {w : Cond} (h : w ∈ tables_1_4) (g : goodWord w = true) : w ∈ xw_G := xw_tab (List.mem_append_right _ (List.mem_append_right _ (List.mem_append_right _ (List.mem_append_left _ h)))) g
theorem xw_c5 {w : Cond} (h : w ∈ tables_1_5) (g : goodWord w = true) : w ∈ xw_G := xw_tab (List.mem_append_right _ (List.mem_append_right _ (List.mem_append_right _ (List.mem_append_right _ (List.mem_append_left _ h))))) g
theorem xw_c6 {w : Cond} (h : w ∈ tables_1_6) (g : goodWord w = true) : w ∈ xw_G := xw_tab (List.mem_append_right _ (List.mem_append_right _ (List.mem_append_right _ (List.mem_append_right _ (List.mem_append_right _ (List.mem_append_left _ h)))))) g
theorem xw_c7 {w : Cond} (h : w ∈ tables_1_7) (g : goodWord w = true) : w ∈ xw_G := xw_tab (List.mem_append_right _ (List.mem_append_right _ (List.mem_append_right _ (List.mem_append_right _ (List.mem_append_right _ (List.mem_append_right _ (List.mem_append_left _ h))))))) g
theorem xw_c8 {w : Cond} (h : w ∈ tables_1_8) (g : goodWord w = true) : w ∈ xw_G := xw_tab (List.mem_append_right _ (List.mem_append_right _ (List.mem_append_right _ (List.mem_append_right _ (List.mem_append_right _ (List.mem_append_right _ (List.mem_append_right _ (List.mem_append_left _ h)))))))) g
theorem xw_c9 {w : Cond} (h : w ∈ tables_1_9) (g : goodWord w = true) : w ∈ xw_G := xw_tab (List.mem_append_right _ (List.mem_append_right _ (List.mem_append_right _ (List.mem_append_right _ (List.mem_append_right _ (List.mem_append_right _ (List.mem_append_right _ (List.mem_append_right _ (List.mem_append_left _ h))))))))) g
theorem xw_c10 {w : Cond} (h : w ∈ tables_1_10) (g : goodWord w = true) : w ∈ xw_G := xw_tab (List.mem_append_right _ (List.mem_append_right _ (List.mem_append_right _ (List.mem_append_right _ (List.mem_append_right _ (List.mem_append_right _ (List.mem_append_right _ (List.mem_append_right _ (List.mem_append_right _ (List.mem_append_left _ h)))))))))) g
theorem xw_c11 {w : Cond} (h : w ∈ tables_1_11) (g : goodWord w = true) : w ∈ xw_G := xw_tab (List.mem_append_right _ (List.mem_append_right _ (List.mem_append_right _ (List.mem_append_right _ (List.mem_append_right _ (List.mem_append_right _ (List.mem_append_right _ (List.mem_append_right _ (List.mem_append_right _ (List.mem_append_right _ h)))))))))) g
theorem xw_sel {q : MethodName × Nat} (h : q ∈ lw_privs) : Cond.selects q.1.cls q.1 q.1 ∈ xw_G := List.mem_filter.mpr ⟨List.mem_append_left _ (List.mem_map.mpr ⟨q, h, rfl⟩), rfl⟩
theorem xw_s1 {q : MethodName × Nat} (h : q ∈ lw_privs_1) : Cond.selects q.1.cls q.1 q.1 ∈ xw_G := xw_sel (List.mem_append_left _ h)
theorem xw_s2 {q : MethodName × Nat} (h : q ∈ lw_privs_2) : Cond.selects q.1.cls q.1 q.1 ∈ xw_G := xw_sel (List.mem_append_right _ (List.mem_append_left _ h))
theorem xw_s3 {q : MethodName × Nat} (h : q ∈ lw_privs_3) : Cond.selects q.1.cls q.1 q.1 ∈ xw_G := xw_sel (List.mem_append_right _ (List.mem_append_right _ (List.mem_append_left _ h)))
theorem xw_s4 {q : MethodName × Nat} (h : q ∈ lw_privs_4) : Cond.selects q.1.cls q.1 q.1 ∈ xw_G := xw_sel (List.mem_append_right _ (List.mem_append_right _ (List.mem_append_right _ (List.mem_append_left _ h))))
theorem xw_s5 {q : MethodName × Nat} (h : q ∈ lw_privs_5) : Cond.selects q.1.cls q.1 q.1 ∈ xw_G := xw_sel (List.mem_append_right _ (List.mem_append_right _ (List.mem_append_right _ (List.mem_append_right _ (List.mem_append_left _ h)))))
theorem xw_s6 {q : MethodName × Nat} (h : q ∈ lw_privs_6) : Cond.selects q.1.cls q.1 q.1 ∈ xw_G := xw_sel (List.mem_append_right _ (List.mem_append_right _ (List.mem_append_right _ (List.mem_append_right _ (List.mem_append_right _ (List.mem_append_left _ h))))))
theorem xw_s7 {q : MethodName × Nat} (h : q ∈ lw_privs_7) : Cond.selects q.1.cls q.1 q.1 ∈ xw_G := xw_sel (List.mem_append_right _ (List.mem_append_right _ (List.mem_append_right _ (List.mem_append_right _ (List.mem_append_right _ (List.mem_append_right _ (List.mem_append_left _ h)))))))
theorem xw_s8 {q : MethodName × Nat} (h : q ∈ lw_privs_8) : Cond.selects q.1.cls q.1 q.1 ∈ xw_G := xw_sel (List.mem_append_right _ (List.mem_append_right _ (List.mem_append_right _ (List.mem_append_right _ (List.mem_append_right _ (List.mem_append_right _ (List.mem_append_right _ (List.mem_append_left _ h))))))))
theorem xw_s9 {q : MethodName × Nat} (h : q ∈ lw_privs_9) : Cond.selects q.1.cls q.1 q.1 ∈ xw_G := xw_sel (List.mem_append_right _ (List.mem_append_right _ (List.mem_append_right _ (List.mem_append_right _ (List.mem_append_right _ (List.mem_append_right _ (List.mem_append_right _ (List.mem_append_right _ (List.mem_append_left _ h)))))))))
theorem xw_s10 {q : MethodName × Nat} (h : q ∈ lw_privs_10) : Cond.selects q.1.cls q.1 q.1 ∈ xw_G := xw_sel (List.mem_append_right _ (List.mem_append_right _ (List.mem_append_right _ (List.mem_append_right _ (List.mem_append_right _ (List.mem_append_right _ (List.mem_append_right _ (List.mem_append_right _ (List.mem_append_right _ h)))))))))
abbrev xw (y : MethodName) (b : ByteArray) (n : Nat) (r : Option FieldType) : List Cond := Cond.code y b n r :: xw_G
theorem xw_g {y : MethodName} {b : ByteArray} {n : Nat} {r : Option FieldType} (h : Cond.code y b n r ∈ xw_G) : GoodIn xw_G (xw y b n r) := fun w hw => by
  rcases List.mem_cons.mp hw with rfl | hw
  · exact ⟨h, xw_good h⟩
  · exact ⟨hw, xw_good hw⟩
theorem xw_gV {own C : String} {i : Nat} {y : MethodName} {b : ByteArray} {n : Nat} {r : Option FieldType} (h1 : Cond.methodLink own i y ∈ xw_G) (h2 : Cond.instanceMethod y ∈ xw_G) (h3 : Cond.selects C y y ∈ xw_G) (h4 : Cond.initialized C ∈ xw_G) (h5 : Cond.code y b n r ∈ xw_G) : GoodIn xw_G (wsV own i C y (xw y b n r)) := fun w hw => by
  unfold wsV at hw
  rcases List.mem_append.mp hw with h | h
  · simp only [List.mem_cons, List.not_mem_nil, or_false] at h
    rcases h with rfl | rfl | rfl | rfl
    · exact ⟨h1, xw_good h1⟩
    · exact ⟨h2, xw_good h2⟩
    · exact ⟨h3, xw_good h3⟩
    · exact ⟨h4, xw_good h4⟩
  · exact xw_g h5 w h
theorem xw_gS {own : String} {i : Nat} {y : MethodName} {b : ByteArray} {n : Nat} {r : Option FieldType} (h1 : Cond.methodLink own i y ∈ xw_G) (h2 : Cond.static y ∈ xw_G) (h4 : Cond.initialized own ∈ xw_G) (h5 : Cond.code y b n r ∈ xw_G) : GoodIn xw_G (wsS own i y (xw y b n r)) := fun w hw => by
  unfold wsS at hw
  rcases List.mem_append.mp hw with h | h
  · simp only [List.mem_cons, List.not_mem_nil, or_false] at h
    rcases h with rfl | rfl | rfl
    · exact ⟨h1, xw_good h1⟩
    · exact ⟨h2, xw_good h2⟩
    · exact ⟨h4, xw_good h4⟩
  · exact xw_g h5 w h
def xk_P (D : va_G) (cl : List vw_C) (tys : List (ClassId × FieldType)) (av : List Value) (sz : Nat) (ws : va_W) : Array Value → State → Prop := va_Pc av (fun U => U.heap.size = sz ∧ va_P D cl ws U.heap ∧ va_K D cl tys U ∧ va_D (fun _ => True) ws)
def xk_B {S : Type} (D : va_G) (cl : List vw_C) (tys : List (ClassId × FieldType)) (w1 : S → va_W) (A : Nat → Prop) : S → State → Prop := fun u t => va_P D cl (w1 u) t.heap ∧ va_K D cl tys t ∧ va_D A (w1 u)
def xk_Qi {S : Type} (D : va_G) (cl : List vw_C) (tys : List (ClassId × FieldType)) (post : Int32 → S → Prop) (w1 : S → va_W) (A : Nat → Prop) : Array Value → State → Outcome → State → Prop := va_Qi post (xk_B D cl tys w1 A) A
def xk_Ql {S : Type} (D : va_G) (cl : List vw_C) (tys : List (ClassId × FieldType)) (post : Int64 → S → Prop) (w1 : S → va_W) (A : Nat → Prop) : Array Value → State → Outcome → State → Prop := va_Ql post (xk_B D cl tys w1 A) A
def xk_Qv {S : Type} (D : va_G) (cl : List vw_C) (tys : List (ClassId × FieldType)) (post : S → Prop) (w1 : S → va_W) (A : Nat → Prop) : Array Value → State → Outcome → State → Prop := va_Qv post (xk_B D cl tys w1 A) A
theorem xk_blind {D : va_G} {cl : List vw_C} {tys : List (ClassId × FieldType)} {av : List Value} {sz : Nat} {ws : va_W} : FrameBlind (xk_P D cl tys av sz ws) := fun a U g mk q => by
  obtain ⟨q0, q1, qP, qK, qD⟩ := q
  exact ⟨q0, q1, qP, va_K.moved (u := U) (U := U.calling g mk a) (Vm.Alike.refl U.vm) qK, qD⟩
section XK
variable {p : Program} {l : Launch} {e : Env} {R : Room} {s : State} {m : MethodId} {args : Array Value} {below : List Frame} {meth : Method} {c : Code} {H : Heap} {locs : List Loc} {cells slots : Nat} {Q : State → Prop}
variable {cc : ByteArray} {pc : Nat} {ls : Array Slot} {rest st0 : List Value} {D : va_G} {cl : List vw_C} {A : Nat → Prop} {tys : List (ClassId × FieldType)} {ws wc wr : va_W} {H0 : Heap}
theorem xk_of {y : MethodName} {b : ByteArray} {n : Nat} {r : Option FieldType} {rm : Room} {av : List Value} {sz mc ms : Nat} {QA : (Nat → Prop) → Array Value → State → Outcome → State → Prop} (hy : plainName y.cls = true) (hn : (lg_sl av).length ≤ n)
    (body : ∀ (p : Program) (e : Env) (s : State) (m : MethodId) (below : List Frame) (meth : Method) (c : Code), p.tables.exec = Jvm.exec → c.code = b → c.maxLocals = n → s.vm.findClass y.cls = some m.cls → (∀ w ∈ xw_G, w.before av.toArray s = true) → meth.sig.returnType = r → meth.locks = false → meth.name = y.name → va_P D cl ws s.heap → va_K D cl tys s → ∀ A : Nat → Prop, (∀ q : Nat, s.heap.size ≤ q → A q) → va_D A ws → va_S A s.heap s.heap [] → ∀ ls : Array Slot, lv_has ls n (lv_args 0 av) →
      W p l e rm s m av.toArray below meth c s.heap [] 0 0 (MQ below (QA A) av.toArray s mc ms A) (F0 m 0 ls [])) : Met l y (xw y b n r) rm (xk_P D cl tys av sz ws) (QA (va_A ws sz)) mc ms (va_A ws sz) := by
  refine Met.ofW (cc := b) (maxL := n) (ret := r) hy rfl ?_
  intro p e s m args below meth c s₁ B hml hv
  obtain ⟨rfl, hsz, hP, hK, hD0⟩ := hv
  subst hsz
  have hts := atoms_spec (ws := xw y b n r) B.pre
  rw [lg_entry_eq]
  exact body p e s m below meth c B.exec B.bytes hml (findClass_of_methodNamed B.named) (fun w h => hts w (List.mem_cons_of_mem _ h)) B.returns B.notSynchronized (name_of_methodNamed B.named B.method).1 hP hK _ (fun q h => Or.inr h) hD0.self va_S.rf _ (lv_entry av hn)
theorem xk_iret {S : Type} {post : Int32 → S → Prop} {w1 : S → va_W} {mc ms : Nat} (u : S) {v : Int32} (hx : p.tables.exec = Jvm.exec) (hb : c.code = cc) (hr : meth.sig.returnType = some .int) (hlocks : meth.locks = false) (hK : va_K D cl tys s) (hS : va_S A s.heap H locs) (hd : decode cc pc = .ok (.ireturn, 1)) (hP : va_P D cl (w1 u) H) (hD : va_D A (w1 u)) (hp : post v u) (h1 : cells ≤ mc) (h2 : slots ≤ ms) :
    W p l e R s m args below meth c H locs cells slots (MQ below (xk_Qi D cl tys post w1 A) args s mc ms A) (F0 m pc ls [.int v]) :=
  W.widen h1 h2 (W.iret hx hb hr (fun t ht hW => ⟨⟨v, u, rfl, hp, by rw [ht]; exact hP, va_K.moved hW.alike hK, hD⟩, hS.F ht⟩) hS.2.2 hd hlocks)
theorem xk_zret {S : Type} {post : Int32 → S → Prop} {w1 : S → va_W} {mc ms : Nat} (u : S) {v : Int32} {ty : FieldType} (hx : p.tables.exec = Jvm.exec) (hb : c.code = cc) (hr : meth.sig.returnType = some ty) (hn : narrow ty (.int v) = .int v) (hlocks : meth.locks = false) (hK : va_K D cl tys s) (hS : va_S A s.heap H locs) (hd : decode cc pc = .ok (.ireturn, 1)) (hP : va_P D cl (w1 u) H) (hD : va_D A (w1 u)) (hp : post v u) (h1 : cells ≤ mc) (h2 : slots ≤ ms) :
    W p l e R s m args below meth c H locs cells slots (MQ below (xk_Qi D cl tys post w1 A) args s mc ms A) (F0 m pc ls [.int v]) :=
  W.widen h1 h2 (W.zret hx hb hr hn (fun t ht hW => ⟨⟨v, u, rfl, hp, by rw [ht]; exact hP, va_K.moved hW.alike hK, hD⟩, hS.F ht⟩) hS.2.2 hd hlocks)
theorem xk_vret {S : Type} {post : S → Prop} {w1 : S → va_W} {mc ms : Nat} (u : S) (hx : p.tables.exec = Jvm.exec) (hb : c.code = cc) (hr : meth.sig.returnType = none) (hlocks : meth.locks = false) (hK : va_K D cl tys s) (hS : va_S A s.heap H locs) (hd : decode cc pc = .ok (.return_, 1)) (hP : va_P D cl (w1 u) H) (hD : va_D A (w1 u)) (hp : post u) (h1 : cells ≤ mc) (h2 : slots ≤ ms) :
    W p l e R s m args below meth c H locs cells slots (MQ below (xk_Qv D cl tys post w1 A) args s mc ms A) (F0 m pc ls []) :=
  W.widen h1 h2 (W.vret hx hb hr (fun t ht hW => ⟨⟨u, rfl, hp, by rw [ht]; exact hP, va_K.moved hW.alike hK, hD⟩, hS.F ht⟩) hS.2.2 hd hlocks)
theorem xk_runV {y : MethodName} {b2 : ByteArray} {nL n2 i ar ci q0 mc ms : Nat} {r2 : Option FieldType} {rm : Room} {own : String} {C : vw_C} {b : Addr} {As : List Value} {fs : List Value} {Qc : Array Value → State → Outcome → State → Prop} (S : CallFix p m c cc nL s args xw_G own) (hK : va_K D cl tys s)
    (M : Met l y (xw y b2 n2 r2) rm (xk_P D cl tys (.ref b :: As) H.size wc) Qc mc ms (va_A wc H.size)) (hP : va_P D cl wc H) (hD : va_D A wc) (hc : cl[ci]? = some C) (he : wc[q0]? = some (b, .inr (ci, fs)))
    (h1 : Cond.methodLink own i y ∈ xw_G) (h2 : Cond.instanceMethod y ∈ xw_G) (h3 : Cond.selects C.1 y y ∈ xw_G) (h4 : Cond.initialized C.1 ∈ xw_G) (h5 : Cond.code y b2 n2 r2 ∈ xw_G) (hrc : rm.cells = mc) (hrs : rm.slots = ms)
    (hd : y.cls = C.1 ∧ y.cls ≠ "java/lang/invoke/MethodHandle" ∧ y.cls ≠ "java/lang/invoke/VarHandle" ∧ (parseMethodDescriptor y.desc).map (fun d => d.parameters.length) = some ar) (hR : rm.frames + 1 ≤ R.frames ∧ 8 + (n2 + 11) + rm.locals ≤ R.locals)
    (hn : As.length = ar) (hsize : ls.size = nL) (hst : st0 = As.reverse ++ .ref b :: rest) (hw : (rest.map fun v => v.category).sum ≤ 8) (hdg : decode cc pc = .ok (.invokevirtual i, 3)) (hf : cells + mc ≤ R.cells ∧ slots + ms ≤ R.slots) :
    va_Run p l e R s m args below meth c H locs cells slots mc ms (F0 m pc ls st0) rest (Qc (Value.ref b :: As).toArray) (va_A wc H.size) :=
  va_runV (As := As) (rest := rest) S M (cwV ar S.2.2.2.2 (xw_gV h1 h2 h3 h4 h5) rfl hrc hrs hd hR) ⟨xk_blind, va_recv hK hP hc he, fun U hU hW => ⟨rfl, by rw [hU], by rw [hU]; exact hP, va_K.moved hW.alike hK, hD.weaken (fun _ _ _ _ => trivial)⟩⟩ rfl hn hsize hst (lv_room hw) hdg hf
theorem xk_runS {y : MethodName} {b2 : ByteArray} {nL n2 i ar mc ms : Nat} {r2 : Option FieldType} {rm : Room} {own : String} {As : List Value} {Qc : Array Value → State → Outcome → State → Prop} (S : CallFix p m c cc nL s args xw_G own) (hK : va_K D cl tys s)
    (M : Met l y (xw y b2 n2 r2) rm (xk_P D cl tys As H.size wc) Qc mc ms (va_A wc H.size)) (hP : va_P D cl wc H) (hD : va_D A wc)
    (h1 : Cond.methodLink own i y ∈ xw_G) (h2 : Cond.static y ∈ xw_G) (h4 : Cond.initialized own ∈ xw_G) (h5 : Cond.code y b2 n2 r2 ∈ xw_G) (hrc : rm.cells = mc) (hrs : rm.slots = ms)
    (hd : y.cls = own ∧ y.cls ≠ "java/lang/invoke/MethodHandle" ∧ y.cls ≠ "java/lang/invoke/VarHandle" ∧ (parseMethodDescriptor y.desc).map (fun d => d.parameters.length) = some ar) (hR : rm.frames + 1 ≤ R.frames ∧ 8 + (n2 + 11) + rm.locals ≤ R.locals)
    (hn : As.length = ar) (hsize : ls.size = nL) (hst : st0 = As.reverse ++ rest) (hw : (rest.map fun v => v.category).sum ≤ 8) (hdg : decode cc pc = .ok (.invokestatic i, 3)) (hf : cells + mc ≤ R.cells ∧ slots + ms ≤ R.slots) :
    va_Run p l e R s m args below meth c H locs cells slots mc ms (F0 m pc ls st0) rest (Qc As.toArray) (va_A wc H.size) :=
  va_runS (As := As) (rest := rest) S M (cwS ar S.2.2.2.2 (xw_gS h1 h2 h4 h5) rfl hrc hrs hd hR) ⟨xk_blind, fun U hU hW => ⟨rfl, by rw [hU], by rw [hU]; exact hP, va_K.moved hW.alike hK, hD.weaken (fun _ _ _ _ => trivial)⟩⟩ rfl hn hsize hst (lv_room hw) hdg hf
theorem xk_runI {y : MethodName} {b2 : ByteArray} {nL n2 i ar mc ms : Nat} {rm : Room} {own : String} {b : Addr} {As : List Value} {Qc : Array Value → State → Outcome → State → Prop} (S : CallFix p m c cc nL s args xw_G own) (hK : va_K D cl tys s)
    (M : Met l y (xw y b2 n2 none) rm (xk_P D cl tys (.ref b :: As) H.size wc) Qc mc ms (va_A wc H.size)) (hP : va_P D cl wc H) (hD : va_D A wc)
    (h1 : Cond.methodLink own i y ∈ xw_G) (h2 : Cond.instanceMethod y ∈ xw_G) (h4 : Cond.initialized y.cls ∈ xw_G) (h5 : Cond.code y b2 n2 none ∈ xw_G) (hrc : rm.cells = mc) (hrs : rm.slots = ms) (hy1 : y.name = "<init>")
    (hd : y.cls ≠ "java/lang/invoke/MethodHandle" ∧ y.cls ≠ "java/lang/invoke/VarHandle" ∧ (parseMethodDescriptor y.desc).map (fun d => d.parameters.length) = some ar) (hR : rm.frames + 1 ≤ R.frames ∧ 8 + (n2 + 11) + rm.locals ≤ R.locals)
    (hn : As.length = ar) (hsize : ls.size = nL) (hst : st0 = As.reverse ++ .ref b :: rest) (hw : (rest.map fun v => v.category).sum ≤ 8) (hdg : decode cc pc = .ok (.invokespecial i, 3)) (hf : cells + mc ≤ R.cells ∧ slots + ms ≤ R.slots) :
    va_Run p l e R s m args below meth c H locs cells slots mc ms (F0 m pc ls st0) rest (Qc (Value.ref b :: As).toArray) (va_A wc H.size) :=
  va_runI (As := As) (rest := rest) S M (cwI ar S.2.2.2.2 (xw_g h5) rfl hrc hrs (S.2.2.2.2 _ h4) (S.2.2.2.2 _ h1) (S.2.2.2.2 _ h2) hy1 hd hR) ⟨xk_blind, fun U hU hW => ⟨rfl, by rw [hU], by rw [hU]; exact hP, va_K.moved hW.alike hK, hD.weaken (fun _ _ _ _ => trivial)⟩⟩ rfl hn hsize hst (lv_room hw) hdg hf
theorem xk_calli {S : Type} {post : Int32 → S → Prop} {w1 : S → va_W} {mc ms : Nat} {a : Array Value} (hr : va_Run p l e R s m args below meth c H locs cells slots mc ms (F0 m pc ls st0) rest (xk_Qi D cl tys post w1 (va_A wc H.size) a) (va_A wc H.size)) (hP : va_P D cl ws H) (hD : va_D A ws) (hS : va_S A H0 H locs) (hA : ∀ q, H0.size ≤ q → A q) (isC isR : List Nat) (hC : isC.map (fun i => ws[i]?) = wc.map some) (hR : isR.map (fun i => ws[i]?) = wr.map some) (hn : va_nd isR = true) (hdis : ∀ i ∈ isR, i ∉ isC)
    (kk : ∀ (r : Int32) (u : S) (H1 : Heap) (locs1 : List Loc), post r u → va_P D cl (wr ++ w1 u) H1 → va_D A (wr ++ w1 u) → va_S A H0 H1 locs1 → W p l e R s m args below meth c H1 locs1 (cells + mc) (slots + ms) Q (F0 m (pc + 3) ls (.int r :: rest))) : W p l e R s m args below meth c H locs cells slots Q (F0 m pc ls st0) := by
  have hF := va_free (wc := wc) hD hS hA isC hC
  refine va_calli hr hS (fun q _ h => hF q h) hF (fun r u t H1 locs1 ht hvm hw hB hz1 hk1 hS1 => ?_)
  obtain ⟨hP1, -, hD1⟩ := hB
  rw [ht] at hP1
  obtain ⟨hP2, hD2⟩ := va_join (wr := wr) hP hD isC isR hC hR hn hdis hk1 hF hP1 hD1
  exact kk r u H1 locs1 hw hP2 hD2 hS1
theorem xk_calll {S : Type} {post : Int64 → S → Prop} {w1 : S → va_W} {mc ms : Nat} {a : Array Value} (hr : va_Run p l e R s m args below meth c H locs cells slots mc ms (F0 m pc ls st0) rest (xk_Ql D cl tys post w1 (va_A wc H.size) a) (va_A wc H.size)) (hP : va_P D cl ws H) (hD : va_D A ws) (hS : va_S A H0 H locs) (hA : ∀ q, H0.size ≤ q → A q) (isC isR : List Nat) (hC : isC.map (fun i => ws[i]?) = wc.map some) (hR : isR.map (fun i => ws[i]?) = wr.map some) (hn : va_nd isR = true) (hdis : ∀ i ∈ isR, i ∉ isC)
    (kk : ∀ (r : Int64) (u : S) (H1 : Heap) (locs1 : List Loc), post r u → va_P D cl (wr ++ w1 u) H1 → va_D A (wr ++ w1 u) → va_S A H0 H1 locs1 → W p l e R s m args below meth c H1 locs1 (cells + mc) (slots + ms) Q (F0 m (pc + 3) ls (.long r :: rest))) : W p l e R s m args below meth c H locs cells slots Q (F0 m pc ls st0) := by
  have hF := va_free (wc := wc) hD hS hA isC hC
  refine va_calll hr hS (fun q _ h => hF q h) hF (fun r u t H1 locs1 ht hvm hw hB hz1 hk1 hS1 => ?_)
  obtain ⟨hP1, -, hD1⟩ := hB
  rw [ht] at hP1
  obtain ⟨hP2, hD2⟩ := va_join (wr := wr) hP hD isC isR hC hR hn hdis hk1 hF hP1 hD1
  exact kk r u H1 locs1 hw hP2 hD2 hS1
theorem xk_callv {S : Type} {post : S → Prop} {w1 : S → va_W} {mc ms : Nat} {a : Array Value} (hr : va_Run p l e R s m args below meth c H locs cells slots mc ms (F0 m pc ls st0) rest (xk_Qv D cl tys post w1 (va_A wc H.size) a) (va_A wc H.size)) (hP : va_P D cl ws H) (hD : va_D A ws) (hS : va_S A H0 H locs) (hA : ∀ q, H0.size ≤ q → A q) (isC isR : List Nat) (hC : isC.map (fun i => ws[i]?) = wc.map some) (hR : isR.map (fun i => ws[i]?) = wr.map some) (hn : va_nd isR = true) (hdis : ∀ i ∈ isR, i ∉ isC)
    (kk : ∀ (u : S) (H1 : Heap) (locs1 : List Loc), post u → va_P D cl (wr ++ w1 u) H1 → va_D A (wr ++ w1 u) → va_S A H0 H1 locs1 → W p l e R s m args below meth c H1 locs1 (cells + mc) (slots + ms) Q (F0 m (pc + 3) ls rest)) : W p l e R s m args below meth c H locs cells slots Q (F0 m pc ls st0) := by
  have hF := va_free (wc := wc) hD hS hA isC hC
  refine va_callv hr hS (fun q _ h => hF q h) hF (fun u t H1 locs1 ht hvm hw hB hz1 hk1 hS1 => ?_)
  obtain ⟨hP1, -, hD1⟩ := hB
  rw [ht] at hP1
  obtain ⟨hP2, hD2⟩ := va_join (wr := wr) hP hD isC isR hC hR hn hdis hk1 hF hP1 hD1
  exact kk u H1 locs1 hw hP2 hD2 hS1
/-- a new array of a kind whose class is known already -/
theorem xk_newa (hx : p.tables.exec = Jvm.exec) (hb : c.code = cc) {atype : ArrayType} (harr : (Cond.arrayClass (newarray.typeOf atype)).before args s = true) {ty : FieldType} (hty : newarray.typeOf atype = ty) (hK : va_K D cl tys s) (hP : va_P D cl ws H) (hD : va_D A ws) (hS : va_S A H0 H locs) (hA : ∀ q, H0.size ≤ q → A q)
    (t0 : Nat) {cA : ClassId} (ht : tys[t0]? = some (cA, ty)) (hra : ∀ c0 : ClassId, va_RA s c0 ty → s.vm.findClass ("[" ++ ty.toString) = some c0)
    {n : Int32} {N' : Nat} {a0 : vp_A} (ha : ∀ cA : ClassId, vp_cell cA a0 = arrV cA N' (fun _ => defaultValue ty)) (hn : ¬ n < 0) (hN : n.toNatClampNeg = N') (hbytes : N' * componentBytes ty ≤ 536870912) (hcells : cells + 1 ≤ R.cells) (hslots : slots + N' ≤ R.slots) (hdg : decode cc pc = .ok (.newarray atype, 2))
    (kk : ∀ (q : Nat) (H1 : Heap), va_P D cl (ws ++ [(q, .inl (cA, a0))]) H1 → va_D A (ws ++ [(q, .inl (cA, a0))]) → va_S A H0 H1 locs →
      W p l e R s m args below meth c H1 locs (cells + 1) (slots + N') Q (F0 m (pc + 2) ls (.ref q :: rest))) : W p l e R s m args below meth c H locs cells slots Q (F0 m pc ls (.int n :: rest)) := by
  refine va_newa hx hb harr hty hK hP hD hS hA ha hn hN hbytes hcells hslots hdg (fun q cA2 H1 hK1 hP1 hD1 hS1 => ?_)
  have e1 := hra _ (hK1.2 tys.length (cA2, ty) (by simp)).2
  have e2 := hra _ (hK.2 t0 (cA, ty) ht).2
  cases Option.some.inj (e1.symm.trans e2)
  exact kk q H1 hP1 hD1 hS1
end XK
end
section
/-! Small rows. -/
section XR
variable {p : Program} {l : Launch} {e : Env} {R : Room} {s : State} {m : MethodId} {args : Array Value} {below : List Frame} {meth : Method} {c : Code} {H : Heap} {locs : List Loc} {cells slots : Nat} {Q : State → Prop}
variable {pc : Nat} {ls : Array Slot} {rest : List Value}
theorem xk_ti {x y : Int32} (h : x = y) (k : W p l e R s m args below meth c H locs cells slots Q (F0 m pc ls (.int y :: rest))) : W p l e R s m args below meth c H locs cells slots Q (F0 m pc ls (.int x :: rest)) := by
  rw [h]; exact k
theorem xk_tl {x y : Int64} (h : x = y) (k : W p l e R s m args below meth c H locs cells slots Q (F0 m pc ls (.long y :: rest))) : W p l e R s m args below meth c H locs cells slots Q (F0 m pc ls (.long x :: rest)) := by
  rw [h]; exact k
theorem xk_lret {cc : ByteArray} {D : va_G} {cl : List vw_C} {A : Nat → Prop} {tys : List (ClassId × FieldType)} {S : Type} {post : Int64 → S → Prop} {w1 : S → va_W} {mc ms : Nat} (u : S) {v : Int64} (hx : p.tables.exec = Jvm.exec) (hb : c.code = cc) (hr : meth.sig.returnType = some .long) (hlocks : meth.locks = false) (hK : va_K D cl tys s) (hS : va_S A s.heap H locs) (hd : decode cc pc = .ok (.lreturn, 1)) (hP : va_P D cl (w1 u) H) (hD : va_D A (w1 u)) (hp : post v u) (h1 : cells ≤ mc) (h2 : slots ≤ ms) :
    W p l e R s m args below meth c H locs cells slots (MQ below (xk_Ql D cl tys post w1 A) args s mc ms A) (F0 m pc ls [.long v]) :=
  W.widen h1 h2 (W.lret hx hb hr (fun t ht hW => ⟨⟨v, u, rfl, hp, by rw [ht]; exact hP, va_K.moved hW.alike hK, hD⟩, hS.F ht⟩) hS.2.2 hd hlocks)
end XR

section XN
variable {p : Program} {l : Launch} {e : Env} {R : Room} {s : State} {m : MethodId} {args : Array Value} {below : List Frame} {meth : Method} {c : Code} {H : Heap} {locs : List Loc} {cells slots : Nat} {Q : State → Prop}
variable {cc : ByteArray} {pc : Nat} {ls : Array Slot} {rest : List Value} {D : va_G} {cl : List vw_C} {A : Nat → Prop} {tys : List (ClassId × FieldType)} {ws : va_W} {H0 : Heap}
theorem xk_newI (N : Nat) (hx : p.tables.exec = Jvm.exec) (hb : c.code = cc) (harr : (Cond.arrayClass .int).before args s = true) (hK : va_K D cl tys s) (hP : va_P D cl ws H) (hD : va_D A ws) (hS : va_S A H0 H locs) (hA : ∀ q, H0.size ≤ q → A q) (t0 : Nat) {cA : ClassId} (ht : tys[t0]? = some (cA, .int))
    {n : Int32} (hn : n = nI N) (hlt : N ≤ 1000000) (hcells : cells + 1 ≤ R.cells) (hslots : slots + N ≤ R.slots) (hdg : decode cc pc = .ok (.newarray .int, 2))
    (kk : ∀ (q : Nat) (H1 : Heap), va_P D cl (ws ++ [(q, .inl (cA, N, .inl (fun _ => 0)))]) H1 → va_D A (ws ++ [(q, .inl (cA, N, .inl (fun _ => 0)))]) → va_S A H0 H1 locs → W p l e R s m args below meth c H1 locs (cells + 1) (slots + N) Q (F0 m (pc + 2) ls (.ref q :: rest))) : W p l e R s m args below meth c H locs cells slots Q (F0 m pc ls (.int n :: rest)) := by
  subst hn
  exact xk_newa (atype := .int) (ty := .int) (N' := N) hx hb harr rfl hK hP hD hS hA t0 ht (fun _ h => h) (a0 := (N, .inl (fun _ => 0))) (fun _ => rfl) (nI_pos (by omega)) (nI_clamp (by omega)) (show N * 4 ≤ 536870912 by omega) hcells hslots hdg kk
theorem xk_newB (N : Nat) (hx : p.tables.exec = Jvm.exec) (hb : c.code = cc) (harr : (Cond.arrayClass .byte).before args s = true) (hK : va_K D cl tys s) (hP : va_P D cl ws H) (hD : va_D A ws) (hS : va_S A H0 H locs) (hA : ∀ q, H0.size ≤ q → A q) (t0 : Nat) {cA : ClassId} (ht : tys[t0]? = some (cA, .byte))
    {n : Int32} (hn : n = nI N) (hlt : N ≤ 1000000) (hcells : cells + 1 ≤ R.cells) (hslots : slots + N ≤ R.slots) (hdg : decode cc pc = .ok (.newarray .byte, 2))
    (kk : ∀ (q : Nat) (H1 : Heap), va_P D cl (ws ++ [(q, .inl (cA, N, .inl (fun _ => 0)))]) H1 → va_D A (ws ++ [(q, .inl (cA, N, .inl (fun _ => 0)))]) → va_S A H0 H1 locs → W p l e R s m args below meth c H1 locs (cells + 1) (slots + N) Q (F0 m (pc + 2) ls (.ref q :: rest))) : W p l e R s m args below meth c H locs cells slots Q (F0 m pc ls (.int n :: rest)) := by
  subst hn
  exact xk_newa (atype := .byte) (ty := .byte) (N' := N) hx hb harr rfl hK hP hD hS hA t0 ht (fun _ h => h) (a0 := (N, .inl (fun _ => 0))) (fun _ => rfl) (nI_pos (by omega)) (nI_clamp (by omega)) (show N * 1 ≤ 536870912 by omega) hcells hslots hdg kk
theorem xk_newJ (N : Nat) (hx : p.tables.exec = Jvm.exec) (hb : c.code = cc) (harr : (Cond.arrayClass .long).before args s = true) (hK : va_K D cl tys s) (hP : va_P D cl ws H) (hD : va_D A ws) (hS : va_S A H0 H locs) (hA : ∀ q, H0.size ≤ q → A q) (t0 : Nat) {cA : ClassId} (ht : tys[t0]? = some (cA, .long))
    {n : Int32} (hn : n = nI N) (hlt : N ≤ 1000000) (hcells : cells + 1 ≤ R.cells) (hslots : slots + N ≤ R.slots) (hdg : decode cc pc = .ok (.newarray .long, 2))
    (kk : ∀ (q : Nat) (H1 : Heap), va_P D cl (ws ++ [(q, .inl (cA, N, .inr (.inl (fun _ => 0))))]) H1 → va_D A (ws ++ [(q, .inl (cA, N, .inr (.inl (fun _ => 0))))]) → va_S A H0 H1 locs → W p l e R s m args below meth c H1 locs (cells + 1) (slots + N) Q (F0 m (pc + 2) ls (.ref q :: rest))) : W p l e R s m args below meth c H locs cells slots Q (F0 m pc ls (.int n :: rest)) := by
  subst hn
  exact xk_newa (atype := .long) (ty := .long) (N' := N) hx hb harr rfl hK hP hD hS hA t0 ht (fun _ h => h) (a0 := (N, .inr (.inl (fun _ => 0)))) (fun _ => rfl) (nI_pos (by omega)) (nI_clamp (by omega)) (show N * 8 ≤ 536870912 by omega) hcells hslots hdg kk
theorem xk_newZ (N : Nat) (hx : p.tables.exec = Jvm.exec) (hb : c.code = cc) (harr : (Cond.arrayClass .boolean).before args s = true) (hK : va_K D cl tys s) (hP : va_P D cl ws H) (hD : va_D A ws) (hS : va_S A H0 H locs) (hA : ∀ q, H0.size ≤ q → A q) (t0 : Nat) {cA : ClassId} (ht : tys[t0]? = some (cA, .boolean))
    {n : Int32} (hn : n = nI N) (hlt : N ≤ 1000000) (hcells : cells + 1 ≤ R.cells) (hslots : slots + N ≤ R.slots) (hdg : decode cc pc = .ok (.newarray .boolean, 2))
    (kk : ∀ (q : Nat) (H1 : Heap), va_P D cl (ws ++ [(q, .inl (cA, N, .inl (fun _ => 0)))]) H1 → va_D A (ws ++ [(q, .inl (cA, N, .inl (fun _ => 0)))]) → va_S A H0 H1 locs → W p l e R s m args below meth c H1 locs (cells + 1) (slots + N) Q (F0 m (pc + 2) ls (.ref q :: rest))) : W p l e R s m args below meth c H locs cells slots Q (F0 m pc ls (.int n :: rest)) := by
  subst hn
  exact xk_newa (atype := .boolean) (ty := .boolean) (N' := N) hx hb harr rfl hK hP hD hS hA t0 ht (fun _ h => h) (a0 := (N, .inl (fun _ => 0))) (fun _ => rfl) (nI_pos (by omega)) (nI_clamp (by omega)) (show N * 1 ≤ 536870912 by omega) hcells hslots hdg kk
end XN
end
section
/-! Names: written by program (wip/p1/names.py). -/
def rn_M : String := "CircuitCyclesModel"
def fn_M : u_T := fun k => match k with
  | 0 => ("CircuitCyclesModel", "thrown", "I", false)
  | 1 => ("CircuitCyclesModel", "tape", "[B", true)
  | 2 => ("CircuitCyclesModel", "size", "I", false)
  | 3 => ("CircuitCyclesModel", "fault", "I", false)
  | 4 => ("CircuitCyclesModel", "kinds", "[I", true)
  | 5 => ("CircuitCyclesModel", "begins", "[I", true)
  | 6 => ("CircuitCyclesModel", "ends", "[I", true)
  | 7 => ("CircuitCyclesModel", "tokens", "I", false)
  | 8 => ("CircuitCyclesModel", "t", "I", false)
  | 9 => ("CircuitCyclesModel", "wrong", "I", false)
  | 10 => ("CircuitCyclesModel", "wrongAt", "I", false)
  | 11 => ("CircuitCyclesModel", "deep", "I", false)
  | 12 => ("CircuitCyclesModel", "modules", "I", false)
  | 13 => ("CircuitCyclesModel", "moduleName", "[I", true)
  | 14 => ("CircuitCyclesModel", "firstSignal", "[I", true)
  | 15 => ("CircuitCyclesModel", "firstInstance", "[I", true)
  | 16 => ("CircuitCyclesModel", "firstAssert", "[I", true)
  | 17 => ("CircuitCyclesModel", "firstAlways", "[I", true)
  | 18 => ("CircuitCyclesModel", "locals", "I", false)
  | 19 => ("CircuitCyclesModel", "localName", "[I", true)
  | 20 => ("CircuitCyclesModel", "localWidth", "[I", true)
  | 21 => ("CircuitCyclesModel", "localKind", "[I", true)
  | 22 => ("CircuitCyclesModel", "localFirst", "[J", true)
  | 23 => ("CircuitCyclesModel", "driverKind", "[I", true)
  | 24 => ("CircuitCyclesModel", "driverFrom", "[I", true)
  | 25 => ("CircuitCyclesModel", "driverTo", "[I", true)
  | 26 => ("CircuitCyclesModel", "setIn", "[I", true)
  | 27 => ("CircuitCyclesModel", "items", "I", false)
  | 28 => ("CircuitCyclesModel", "itemModule", "[I", true)
  | 29 => ("CircuitCyclesModel", "itemName", "[I", true)
  | 30 => ("CircuitCyclesModel", "firstLink", "[I", true)
  | 31 => ("CircuitCyclesModel", "links", "I", false)
  | 32 => ("CircuitCyclesModel", "linkPort", "[I", true)
  | 33 => ("CircuitCyclesModel", "linkFrom", "[I", true)
  | 34 => ("CircuitCyclesModel", "linkTo", "[I", true)
  | 35 => ("CircuitCyclesModel", "asserts", "I", false)
  | 36 => ("CircuitCyclesModel", "assertFrom", "[I", true)
  | 37 => ("CircuitCyclesModel", "assertTo", "[I", true)
  | 38 => ("CircuitCyclesModel", "always", "I", false)
  | 39 => ("CircuitCyclesModel", "alwaysFrom", "[I", true)
  | 40 => ("CircuitCyclesModel", "alwaysTo", "[I", true)
  | 41 => ("CircuitCyclesModel", "code", "[I", false)
  | 42 => ("CircuitCyclesModel", "laid", "I", false)
  | 43 => ("CircuitCyclesModel", "numbers", "[J", false)
  | 44 => ("CircuitCyclesModel", "numberCount", "I", false)
  | 45 => ("CircuitCyclesModel", "moduleCost", "[J", true)
  | 46 => ("CircuitCyclesModel", "moduleInstances", "[J", true)
  | 47 => ("CircuitCyclesModel", "moduleSignals", "[J", true)
  | 48 => ("CircuitCyclesModel", "moduleBits", "[J", true)
  | 49 => ("CircuitCyclesModel", "waitOp", "[I", true)
  | 50 => ("CircuitCyclesModel", "waitAt", "[I", true)
  | 51 => ("CircuitCyclesModel", "waits", "I", false)
  | 52 => ("CircuitCyclesModel", "widths", "[I", true)
  | 53 => ("CircuitCyclesModel", "widthCount", "I", false)
  | 54 => ("CircuitCyclesModel", "there", "Z", false)
  | 55 => ("CircuitCyclesModel", "text", "[B", true)
  | 56 => ("CircuitCyclesModel", "instances", "I", false)
  | 57 => ("CircuitCyclesModel", "instanceModule", "[I", true)
  | 58 => ("CircuitCyclesModel", "instanceBase", "[I", true)
  | 59 => ("CircuitCyclesModel", "instanceUp", "[I", true)
  | 60 => ("CircuitCyclesModel", "instanceItem", "[I", true)
  | 61 => ("CircuitCyclesModel", "stack", "[I", true)
  | 62 => ("CircuitCyclesModel", "stackNext", "[I", true)
  | 63 => ("CircuitCyclesModel", "signals", "I", false)
  | 64 => ("CircuitCyclesModel", "signalLocal", "[I", true)
  | 65 => ("CircuitCyclesModel", "signalInstance", "[I", true)
  | 66 => ("CircuitCyclesModel", "ruleKind", "[I", true)
  | 67 => ("CircuitCyclesModel", "ruleFrom", "[I", true)
  | 68 => ("CircuitCyclesModel", "ruleTo", "[I", true)
  | 69 => ("CircuitCyclesModel", "ruleFor", "[I", true)
  | 70 => ("CircuitCyclesModel", "order", "[I", true)
  | 71 => ("CircuitCyclesModel", "ordered", "I", false)
  | 72 => ("CircuitCyclesModel", "ready", "[Z", true)
  | 73 => ("CircuitCyclesModel", "met", "[Z", true)
  | 74 => ("CircuitCyclesModel", "queue", "[I", true)
  | 75 => ("CircuitCyclesModel", "modulesThere", "I", false)
  | 76 => ("CircuitCyclesModel", "registerBits", "I", false)
  | 77 => ("CircuitCyclesModel", "inputBits", "I", false)
  | 78 => ("CircuitCyclesModel", "assertsThere", "I", false)
  | 79 => ("CircuitCyclesModel", "costThere", "J", false)
  | 80 => ("CircuitCyclesModel", "values", "[J", true)
  | 81 => ("CircuitCyclesModel", "nexts", "[J", true)
  | 82 => ("CircuitCyclesModel", "registers", "[J", true)
  | 83 => ("CircuitCyclesModel", "inputs", "[J", true)
  | 84 => ("CircuitCyclesModel", "pile", "[J", true)
  | 85 => ("CircuitCyclesModel", "high", "I", false)
  | 86 => ("CircuitCyclesModel", "cycle", "I", false)
  | 87 => ("CircuitCyclesModel", "valueFits", "Z", false)
  | 88 => ("CircuitCyclesModel", "tapeSize", "I", false)
  | 89 => ("CircuitCyclesModel", "textSize", "I", false)
  | _ => ("CircuitCyclesModel", "src", "[B", true)
def tn_M : Nat → FieldType := fun k => match k with
  | 0 => .int
  | 1 => (.array .byte)
  | 2 => .int
  | 3 => .int
  | 4 => (.array .int)
  | 5 => (.array .int)
  | 6 => (.array .int)
  | 7 => .int
  | 8 => .int
  | 9 => .int
  | 10 => .int
  | 11 => .int
  | 12 => .int
  | 13 => (.array .int)
  | 14 => (.array .int)
  | 15 => (.array .int)
  | 16 => (.array .int)
  | 17 => (.array .int)
  | 18 => .int
  | 19 => (.array .int)
  | 20 => (.array .int)
  | 21 => (.array .int)
  | 22 => (.array .long)
  | 23 => (.array .int)
  | 24 => (.array .int)
  | 25 => (.array .int)
  | 26 => (.array .int)
  | 27 => .int
  | 28 => (.array .int)
  | 29 => (.array .int)
  | 30 => (.array .int)
  | 31 => .int
  | 32 => (.array .int)
  | 33 => (.array .int)
  | 34 => (.array .int)
  | 35 => .int
  | 36 => (.array .int)
  | 37 => (.array .int)
  | 38 => .int
  | 39 => (.array .int)
  | 40 => (.array .int)
  | 41 => (.array .int)
  | 42 => .int
  | 43 => (.array .long)
  | 44 => .int
  | 45 => (.array .long)
  | 46 => (.array .long)
  | 47 => (.array .long)
  | 48 => (.array .long)
  | 49 => (.array .int)
  | 50 => (.array .int)
  | 51 => .int
  | 52 => (.array .int)
  | 53 => .int
  | 54 => .boolean
  | 55 => (.array .byte)
  | 56 => .int
  | 57 => (.array .int)
  | 58 => (.array .int)
  | 59 => (.array .int)
  | 60 => (.array .int)
  | 61 => (.array .int)
  | 62 => (.array .int)
  | 63 => .int
  | 64 => (.array .int)
  | 65 => (.array .int)
  | 66 => (.array .int)
  | 67 => (.array .int)
  | 68 => (.array .int)
  | 69 => (.array .int)
  | 70 => (.array .int)
  | 71 => .int
  | 72 => (.array .boolean)
  | 73 => (.array .boolean)
  | 74 => (.array .int)
  | 75 => .int
  | 76 => .int
  | 77 => .int
  | 78 => .int
  | 79 => .long
  | 80 => (.array .long)
  | 81 => (.array .long)
  | 82 => (.array .long)
  | 83 => (.array .long)
  | 84 => (.array .long)
  | 85 => .int
  | 86 => .int
  | 87 => .boolean
  | 88 => .int
  | 89 => .int
  | _ => (.array .byte)
theorem nn_M : ∀ a, a < 91 → ∀ b, b < 91 → a ≠ b → (fn_M a).2.1 ≠ (fn_M b).2.1 := by decide +kernel
theorem tk_M : ∀ k, k < 91 → parseFieldDescriptor (fn_M k).2.2.1 = some (tn_M k) := by decide +kernel
def xo_M (f : Nat → Value) : List Value := [f 0, f 1, f 2, f 3, f 4, f 5, f 6, f 7, f 8, f 9, f 10, f 11, f 12, f 13, f 14, f 15, f 16, f 17, f 18, f 19, f 20, f 21, f 22, f 23, f 24, f 25, f 26, f 27, f 28, f 29, f 30, f 31, f 32, f 33, f 34, f 35, f 36, f 37, f 38, f 39, f 40, f 41, f 42, f 43, f 44, f 45, f 46, f 47, f 48, f 49, f 50, f 51, f 52, f 53, f 54, f 55, f 56, f 57, f 58, f 59, f 60, f 61, f 62, f 63, f 64, f 65, f 66, f 67, f 68, f 69, f 70, f 71, f 72, f 73, f 74, f 75, f 76, f 77, f 78, f 79, f 80, f 81, f 82, f 83, f 84, f 85, f 86, f 87, f 88, f 89, f 90]
def rn_C : String := "CircuitCycles"
def fn_C : u_T := fun k => match k with
  | 0 => ("CircuitCycles", "tape", "[B", false)
  | 1 => ("CircuitCycles", "length", "I", false)
  | 2 => ("CircuitCycles", "faultCode", "I", false)
  | 3 => ("CircuitCycles", "tokens", "LCircuitCycles$Tokens;", true)
  | 4 => ("CircuitCycles", "scanner", "LCircuitCycles$Scanner;", true)
  | 5 => ("CircuitCycles", "checker", "LCircuitCycles$Checker;", true)
  | 6 => ("CircuitCycles", "grammar", "LCircuitCycles$Grammar;", true)
  | 7 => ("CircuitCycles", "order", "LCircuitCycles$Order;", true)
  | 8 => ("CircuitCycles", "machine", "LCircuitCycles$Machine;", true)
  | 9 => ("CircuitCycles", "circuit", "LCircuitCycles$Circuit;", false)
  | _ => ("CircuitCycles", "spare", "LCircuitCycles$Circuit;", false)
def tn_C : Nat → FieldType := fun k => match k with
  | 0 => (.array .byte)
  | 1 => .int
  | 2 => .int
  | 3 => (.object "CircuitCycles$Tokens")
  | 4 => (.object "CircuitCycles$Scanner")
  | 5 => (.object "CircuitCycles$Checker")
  | 6 => (.object "CircuitCycles$Grammar")
  | 7 => (.object "CircuitCycles$Order")
  | 8 => (.object "CircuitCycles$Machine")
  | 9 => (.object "CircuitCycles$Circuit")
  | _ => (.object "CircuitCycles$Circuit")
theorem nn_C : ∀ a, a < 11 → ∀ b, b < 11 → a ≠ b → (fn_C a).2.1 ≠ (fn_C b).2.1 := by decide +kernel
theorem tk_C : ∀ k, k < 11 → parseFieldDescriptor (fn_C k).2.2.1 = some (tn_C k) := by decide +kernel
def xo_C (f : Nat → Value) : List Value := [f 0, f 1, f 2, f 3, f 4, f 5, f 6, f 7, f 8, f 9, f 10]
def rn_Tokens : String := "CircuitCycles$Tokens"
def fn_Tokens : u_T := fun k => match k with
  | 0 => ("CircuitCycles$Tokens", "kinds", "[I", false)
  | 1 => ("CircuitCycles$Tokens", "places", "[I", false)
  | 2 => ("CircuitCycles$Tokens", "extras", "[I", false)
  | 3 => ("CircuitCycles$Tokens", "size", "I", false)
  | 4 => ("CircuitCycles$Tokens", "index", "I", false)
  | 5 => ("CircuitCycles$Tokens", "kind", "I", false)
  | 6 => ("CircuitCycles$Tokens", "place", "I", false)
  | 7 => ("CircuitCycles$Tokens", "extra", "I", false)
  | 8 => ("CircuitCycles$Tokens", "faultCode", "I", false)
  | 9 => ("CircuitCycles$Tokens", "faultPlace", "I", false)
  | _ => ("CircuitCycles$Tokens", "opens", "I", false)
def tn_Tokens : Nat → FieldType := fun k => match k with
  | 0 => (.array .int)
  | 1 => (.array .int)
  | 2 => (.array .int)
  | 3 => .int
  | 4 => .int
  | 5 => .int
  | 6 => .int
  | 7 => .int
  | 8 => .int
  | 9 => .int
  | _ => .int
theorem nn_Tokens : ∀ a, a < 11 → ∀ b, b < 11 → a ≠ b → (fn_Tokens a).2.1 ≠ (fn_Tokens b).2.1 := by decide +kernel
theorem tk_Tokens : ∀ k, k < 11 → parseFieldDescriptor (fn_Tokens k).2.2.1 = some (tn_Tokens k) := by decide +kernel
def xo_Tokens (f : Nat → Value) : List Value := [f 0, f 1, f 2, f 3, f 4, f 5, f 6, f 7, f 8, f 9, f 10]
def rn_Scanner : String := "CircuitCycles$Scanner"
def fn_Scanner : u_T := fun k => match k with
  | 0 => ("CircuitCycles$Scanner", "tokens", "LCircuitCycles$Tokens;", true)
  | 1 => ("CircuitCycles$Scanner", "text", "[B", false)
  | 2 => ("CircuitCycles$Scanner", "length", "I", false)
  | 3 => ("CircuitCycles$Scanner", "code", "LCircuitCycles$Code;", false)
  | 4 => ("CircuitCycles$Scanner", "heads", "[I", true)
  | 5 => ("CircuitCycles$Scanner", "nexts", "[I", false)
  | 6 => ("CircuitCycles$Scanner", "wordStarts", "[I", false)
  | 7 => ("CircuitCycles$Scanner", "wordStops", "[I", false)
  | 8 => ("CircuitCycles$Scanner", "wordKinds", "[I", false)
  | _ => ("CircuitCycles$Scanner", "words", "I", false)
def tn_Scanner : Nat → FieldType := fun k => match k with
  | 0 => (.object "CircuitCycles$Tokens")
  | 1 => (.array .byte)
  | 2 => .int
  | 3 => (.object "CircuitCycles$Code")
  | 4 => (.array .int)
  | 5 => (.array .int)
  | 6 => (.array .int)
  | 7 => (.array .int)
  | 8 => (.array .int)
  | _ => .int
theorem nn_Scanner : ∀ a, a < 10 → ∀ b, b < 10 → a ≠ b → (fn_Scanner a).2.1 ≠ (fn_Scanner b).2.1 := by decide +kernel
theorem tk_Scanner : ∀ k, k < 10 → parseFieldDescriptor (fn_Scanner k).2.2.1 = some (tn_Scanner k) := by decide +kernel
def xo_Scanner (f : Nat → Value) : List Value := [f 0, f 1, f 2, f 3, f 4, f 5, f 6, f 7, f 8, f 9]
def rn_Checker : String := "CircuitCycles$Checker"
def fn_Checker : u_T := fun k => match k with
  | 0 => ("CircuitCycles$Checker", "tokens", "LCircuitCycles$Tokens;", true)
  | 1 => ("CircuitCycles$Checker", "parts", "LCircuitCycles$Parts;", false)
  | 2 => ("CircuitCycles$Checker", "code", "LCircuitCycles$Code;", false)
  | 3 => ("CircuitCycles$Checker", "module", "I", false)
  | 4 => ("CircuitCycles$Checker", "firstDecl", "I", false)
  | 5 => ("CircuitCycles$Checker", "modules", "[I", false)
  | 6 => ("CircuitCycles$Checker", "decls", "[I", false)
  | 7 => ("CircuitCycles$Checker", "stamps", "[I", false)
  | 8 => ("CircuitCycles$Checker", "widths", "[I", true)
  | 9 => ("CircuitCycles$Checker", "top", "I", false)
  | 10 => ("CircuitCycles$Checker", "expStart", "I", false)
  | 11 => ("CircuitCycles$Checker", "cost", "I", false)
  | 12 => ("CircuitCycles$Checker", "faultCode", "I", false)
  | _ => ("CircuitCycles$Checker", "faultPlace", "I", false)
def tn_Checker : Nat → FieldType := fun k => match k with
  | 0 => (.object "CircuitCycles$Tokens")
  | 1 => (.object "CircuitCycles$Parts")
  | 2 => (.object "CircuitCycles$Code")
  | 3 => .int
  | 4 => .int
  | 5 => (.array .int)
  | 6 => (.array .int)
  | 7 => (.array .int)
  | 8 => (.array .int)
  | 9 => .int
  | 10 => .int
  | 11 => .int
  | 12 => .int
  | _ => .int
theorem nn_Checker : ∀ a, a < 14 → ∀ b, b < 14 → a ≠ b → (fn_Checker a).2.1 ≠ (fn_Checker b).2.1 := by decide +kernel
theorem tk_Checker : ∀ k, k < 14 → parseFieldDescriptor (fn_Checker k).2.2.1 = some (tn_Checker k) := by decide +kernel
def xo_Checker (f : Nat → Value) : List Value := [f 0, f 1, f 2, f 3, f 4, f 5, f 6, f 7, f 8, f 9, f 10, f 11, f 12, f 13]
def rn_Meaning : String := "CircuitCycles$Meaning"
def fn_Meaning : u_T := fun k => match k with
  | 0 => ("CircuitCycles$Meaning", "checker", "LCircuitCycles$Checker;", true)
  | 1 => ("CircuitCycles$Meaning", "design", "LCircuitCycles$Design;", false)
  | 2 => ("CircuitCycles$Meaning", "parts", "LCircuitCycles$Parts;", false)
  | 3 => ("CircuitCycles$Meaning", "code", "LCircuitCycles$Code;", false)
  | 4 => ("CircuitCycles$Meaning", "rangeWidth", "I", false)
  | 5 => ("CircuitCycles$Meaning", "target", "I", false)
  | 6 => ("CircuitCycles$Meaning", "targetLow", "I", false)
  | 7 => ("CircuitCycles$Meaning", "targetWidth", "I", false)
  | 8 => ("CircuitCycles$Meaning", "port", "I", false)
  | 9 => ("CircuitCycles$Meaning", "alwaysNumber", "I", false)
  | 10 => ("CircuitCycles$Meaning", "alwaysStart", "I", false)
  | 11 => ("CircuitCycles$Meaning", "stores", "Z", false)
  | 12 => ("CircuitCycles$Meaning", "jumps", "[I", true)
  | 13 => ("CircuitCycles$Meaning", "exits", "[I", true)
  | 14 => ("CircuitCycles$Meaning", "matches", "[I", true)
  | 15 => ("CircuitCycles$Meaning", "widths", "[I", true)
  | _ => ("CircuitCycles$Meaning", "depth", "I", false)
def tn_Meaning : Nat → FieldType := fun k => match k with
  | 0 => (.object "CircuitCycles$Checker")
  | 1 => (.object "CircuitCycles$Design")
  | 2 => (.object "CircuitCycles$Parts")
  | 3 => (.object "CircuitCycles$Code")
  | 4 => .int
  | 5 => .int
  | 6 => .int
  | 7 => .int
  | 8 => .int
  | 9 => .int
  | 10 => .int
  | 11 => .boolean
  | 12 => (.array .int)
  | 13 => (.array .int)
  | 14 => (.array .int)
  | 15 => (.array .int)
  | _ => .int
theorem nn_Meaning : ∀ a, a < 17 → ∀ b, b < 17 → a ≠ b → (fn_Meaning a).2.1 ≠ (fn_Meaning b).2.1 := by decide +kernel
theorem tk_Meaning : ∀ k, k < 17 → parseFieldDescriptor (fn_Meaning k).2.2.1 = some (tn_Meaning k) := by decide +kernel
def xo_Meaning (f : Nat → Value) : List Value := [f 0, f 1, f 2, f 3, f 4, f 5, f 6, f 7, f 8, f 9, f 10, f 11, f 12, f 13, f 14, f 15, f 16]
def rn_Grammar : String := "CircuitCycles$Grammar"
def fn_Grammar : u_T := fun k => match k with
  | 0 => ("CircuitCycles$Grammar", "tokens", "LCircuitCycles$Tokens;", true)
  | 1 => ("CircuitCycles$Grammar", "checker", "LCircuitCycles$Checker;", true)
  | 2 => ("CircuitCycles$Grammar", "meaning", "LCircuitCycles$Meaning;", true)
  | 3 => ("CircuitCycles$Grammar", "state", "I", false)
  | 4 => ("CircuitCycles$Grammar", "purpose", "I", false)
  | 5 => ("CircuitCycles$Grammar", "signPlace", "I", false)
  | 6 => ("CircuitCycles$Grammar", "linkPlace", "I", false)
  | 7 => ("CircuitCycles$Grammar", "expPlace", "I", false)
  | 8 => ("CircuitCycles$Grammar", "expIndex", "I", false)
  | 9 => ("CircuitCycles$Grammar", "contexts", "[I", true)
  | 10 => ("CircuitCycles$Grammar", "depth", "I", false)
  | 11 => ("CircuitCycles$Grammar", "heldKinds", "[I", false)
  | 12 => ("CircuitCycles$Grammar", "heldPlaces", "[I", false)
  | 13 => ("CircuitCycles$Grammar", "heldTimes", "[I", false)
  | _ => ("CircuitCycles$Grammar", "held", "I", false)
def tn_Grammar : Nat → FieldType := fun k => match k with
  | 0 => (.object "CircuitCycles$Tokens")
  | 1 => (.object "CircuitCycles$Checker")
  | 2 => (.object "CircuitCycles$Meaning")
  | 3 => .int
  | 4 => .int
  | 5 => .int
  | 6 => .int
  | 7 => .int
  | 8 => .int
  | 9 => (.array .int)
  | 10 => .int
  | 11 => (.array .int)
  | 12 => (.array .int)
  | 13 => (.array .int)
  | _ => .int
theorem nn_Grammar : ∀ a, a < 15 → ∀ b, b < 15 → a ≠ b → (fn_Grammar a).2.1 ≠ (fn_Grammar b).2.1 := by decide +kernel
theorem tk_Grammar : ∀ k, k < 15 → parseFieldDescriptor (fn_Grammar k).2.2.1 = some (tn_Grammar k) := by decide +kernel
def xo_Grammar (f : Nat → Value) : List Value := [f 0, f 1, f 2, f 3, f 4, f 5, f 6, f 7, f 8, f 9, f 10, f 11, f 12, f 13, f 14]
def rn_Order : String := "CircuitCycles$Order"
def fn_Order : u_T := fun k => match k with
  | 0 => ("CircuitCycles$Order", "circuit", "LCircuitCycles$Circuit;", false)
  | 1 => ("CircuitCycles$Order", "numbers", "[I", true)
  | 2 => ("CircuitCycles$Order", "lowest", "[I", true)
  | 3 => ("CircuitCycles$Order", "cursors", "[I", true)
  | 4 => ("CircuitCycles$Order", "path", "[I", true)
  | 5 => ("CircuitCycles$Order", "open", "[I", true)
  | 6 => ("CircuitCycles$Order", "pathSize", "I", false)
  | 7 => ("CircuitCycles$Order", "openSize", "I", false)
  | 8 => ("CircuitCycles$Order", "seen", "I", false)
  | _ => ("CircuitCycles$Order", "looped", "I", false)
def tn_Order : Nat → FieldType := fun k => match k with
  | 0 => (.object "CircuitCycles$Circuit")
  | 1 => (.array .int)
  | 2 => (.array .int)
  | 3 => (.array .int)
  | 4 => (.array .int)
  | 5 => (.array .int)
  | 6 => .int
  | 7 => .int
  | 8 => .int
  | _ => .int
theorem nn_Order : ∀ a, a < 10 → ∀ b, b < 10 → a ≠ b → (fn_Order a).2.1 ≠ (fn_Order b).2.1 := by decide +kernel
theorem tk_Order : ∀ k, k < 10 → parseFieldDescriptor (fn_Order k).2.2.1 = some (tn_Order k) := by decide +kernel
def xo_Order (f : Nat → Value) : List Value := [f 0, f 1, f 2, f 3, f 4, f 5, f 6, f 7, f 8, f 9]
def rn_Machine : String := "CircuitCycles$Machine"
def fn_Machine : u_T := fun k => match k with
  | 0 => ("CircuitCycles$Machine", "values", "[J", true)
  | 1 => ("CircuitCycles$Machine", "nexts", "[J", true)
  | 2 => ("CircuitCycles$Machine", "stack", "[J", true)
  | 3 => ("CircuitCycles$Machine", "cycle", "I", false)
  | _ => ("CircuitCycles$Machine", "settled", "Z", false)
def tn_Machine : Nat → FieldType := fun k => match k with
  | 0 => (.array .long)
  | 1 => (.array .long)
  | 2 => (.array .long)
  | 3 => .int
  | _ => .boolean
theorem nn_Machine : ∀ a, a < 5 → ∀ b, b < 5 → a ≠ b → (fn_Machine a).2.1 ≠ (fn_Machine b).2.1 := by decide +kernel
theorem tk_Machine : ∀ k, k < 5 → parseFieldDescriptor (fn_Machine k).2.2.1 = some (tn_Machine k) := by decide +kernel
def xo_Machine (f : Nat → Value) : List Value := [f 0, f 1, f 2, f 3, f 4]
def rn_Circuit : String := "CircuitCycles$Circuit"
def fn_Circuit : u_T := fun k => match k with
  | 0 => ("CircuitCycles$Circuit", "design", "LCircuitCycles$Design;", true)
  | 1 => ("CircuitCycles$Circuit", "instances", "I", false)
  | 2 => ("CircuitCycles$Circuit", "signals", "I", false)
  | 3 => ("CircuitCycles$Circuit", "bases", "[I", false)
  | 4 => ("CircuitCycles$Circuit", "modules", "[I", false)
  | 5 => ("CircuitCycles$Circuit", "parents", "[I", true)
  | 6 => ("CircuitCycles$Circuit", "children", "[I", true)
  | 7 => ("CircuitCycles$Circuit", "decls", "[I", true)
  | 8 => ("CircuitCycles$Circuit", "starts", "[I", true)
  | 9 => ("CircuitCycles$Circuit", "stops", "[I", true)
  | 10 => ("CircuitCycles$Circuit", "frames", "[I", true)
  | 11 => ("CircuitCycles$Circuit", "sources", "[I", true)
  | 12 => ("CircuitCycles$Circuit", "order", "[I", true)
  | _ => ("CircuitCycles$Circuit", "ordered", "I", false)
def tn_Circuit : Nat → FieldType := fun k => match k with
  | 0 => (.object "CircuitCycles$Design")
  | 1 => .int
  | 2 => .int
  | 3 => (.array .int)
  | 4 => (.array .int)
  | 5 => (.array .int)
  | 6 => (.array .int)
  | 7 => (.array .int)
  | 8 => (.array .int)
  | 9 => (.array .int)
  | 10 => (.array .int)
  | 11 => (.array .int)
  | 12 => (.array .int)
  | _ => .int
theorem nn_Circuit : ∀ a, a < 14 → ∀ b, b < 14 → a ≠ b → (fn_Circuit a).2.1 ≠ (fn_Circuit b).2.1 := by decide +kernel
theorem tk_Circuit : ∀ k, k < 14 → parseFieldDescriptor (fn_Circuit k).2.2.1 = some (tn_Circuit k) := by decide +kernel
def xo_Circuit (f : Nat → Value) : List Value := [f 0, f 1, f 2, f 3, f 4, f 5, f 6, f 7, f 8, f 9, f 10, f 11, f 12, f 13]
def rn_Design : String := "CircuitCycles$Design"
def fn_Design : u_T := fun k => match k with
  | 0 => ("CircuitCycles$Design", "parts", "LCircuitCycles$Parts;", true)
  | 1 => ("CircuitCycles$Design", "code", "LCircuitCycles$Code;", true)
  | 2 => ("CircuitCycles$Design", "text", "[B", false)
  | 3 => ("CircuitCycles$Design", "length", "I", false)
  | 4 => ("CircuitCycles$Design", "moduleCount", "I", false)
  | 5 => ("CircuitCycles$Design", "inputBits", "I", false)
  | 6 => ("CircuitCycles$Design", "places", "[I", false)
  | 7 => ("CircuitCycles$Design", "firstDecls", "[I", false)
  | 8 => ("CircuitCycles$Design", "portCounts", "[I", false)
  | 9 => ("CircuitCycles$Design", "firstChildren", "[I", false)
  | 10 => ("CircuitCycles$Design", "firstPieces", "[I", false)
  | 11 => ("CircuitCycles$Design", "sums", "[[I", true)
  | 12 => ("CircuitCycles$Design", "pieceCount", "I", false)
  | 13 => ("CircuitCycles$Design", "pieceStarts", "[I", false)
  | 14 => ("CircuitCycles$Design", "pieceStops", "[I", false)
  | _ => ("CircuitCycles$Design", "pieceAsserts", "[I", false)
def tn_Design : Nat → FieldType := fun k => match k with
  | 0 => (.object "CircuitCycles$Parts")
  | 1 => (.object "CircuitCycles$Code")
  | 2 => (.array .byte)
  | 3 => .int
  | 4 => .int
  | 5 => .int
  | 6 => (.array .int)
  | 7 => (.array .int)
  | 8 => (.array .int)
  | 9 => (.array .int)
  | 10 => (.array .int)
  | 11 => (.array (.array .int))
  | 12 => .int
  | 13 => (.array .int)
  | 14 => (.array .int)
  | _ => (.array .int)
theorem nn_Design : ∀ a, a < 16 → ∀ b, b < 16 → a ≠ b → (fn_Design a).2.1 ≠ (fn_Design b).2.1 := by decide +kernel
theorem tk_Design : ∀ k, k < 16 → parseFieldDescriptor (fn_Design k).2.2.1 = some (tn_Design k) := by decide +kernel
def xo_Design (f : Nat → Value) : List Value := [f 0, f 1, f 2, f 3, f 4, f 5, f 6, f 7, f 8, f 9, f 10, f 11, f 12, f 13, f 14, f 15]
def rn_Parts : String := "CircuitCycles$Parts"
def fn_Parts : u_T := fun k => match k with
  | 0 => ("CircuitCycles$Parts", "declCount", "I", false)
  | 1 => ("CircuitCycles$Parts", "places", "[I", false)
  | 2 => ("CircuitCycles$Parts", "widths", "[I", false)
  | 3 => ("CircuitCycles$Parts", "sorts", "[I", false)
  | 4 => ("CircuitCycles$Parts", "firsts", "[J", false)
  | 5 => ("CircuitCycles$Parts", "names", "[I", false)
  | 6 => ("CircuitCycles$Parts", "setters", "[I", false)
  | 7 => ("CircuitCycles$Parts", "linkers", "[I", false)
  | 8 => ("CircuitCycles$Parts", "starts", "[I", false)
  | 9 => ("CircuitCycles$Parts", "stops", "[I", false)
  | 10 => ("CircuitCycles$Parts", "childCount", "I", false)
  | 11 => ("CircuitCycles$Parts", "childModules", "[I", false)
  | 12 => ("CircuitCycles$Parts", "childPlaces", "[I", false)
  | 13 => ("CircuitCycles$Parts", "firstLinks", "[I", false)
  | 14 => ("CircuitCycles$Parts", "linkCount", "I", false)
  | 15 => ("CircuitCycles$Parts", "linkPorts", "[I", false)
  | 16 => ("CircuitCycles$Parts", "linkStarts", "[I", false)
  | _ => ("CircuitCycles$Parts", "linkStops", "[I", false)
def tn_Parts : Nat → FieldType := fun k => match k with
  | 0 => .int
  | 1 => (.array .int)
  | 2 => (.array .int)
  | 3 => (.array .int)
  | 4 => (.array .long)
  | 5 => (.array .int)
  | 6 => (.array .int)
  | 7 => (.array .int)
  | 8 => (.array .int)
  | 9 => (.array .int)
  | 10 => .int
  | 11 => (.array .int)
  | 12 => (.array .int)
  | 13 => (.array .int)
  | 14 => .int
  | 15 => (.array .int)
  | 16 => (.array .int)
  | _ => (.array .int)
theorem nn_Parts : ∀ a, a < 18 → ∀ b, b < 18 → a ≠ b → (fn_Parts a).2.1 ≠ (fn_Parts b).2.1 := by decide +kernel
theorem tk_Parts : ∀ k, k < 18 → parseFieldDescriptor (fn_Parts k).2.2.1 = some (tn_Parts k) := by decide +kernel
def xo_Parts (f : Nat → Value) : List Value := [f 0, f 1, f 2, f 3, f 4, f 5, f 6, f 7, f 8, f 9, f 10, f 11, f 12, f 13, f 14, f 15, f 16, f 17]
def rn_Code : String := "CircuitCycles$Code"
def fn_Code : u_T := fun k => match k with
  | 0 => ("CircuitCycles$Code", "ops", "[I", false)
  | 1 => ("CircuitCycles$Code", "args", "[I", false)
  | 2 => ("CircuitCycles$Code", "size", "I", false)
  | 3 => ("CircuitCycles$Code", "literalWidths", "[I", false)
  | 4 => ("CircuitCycles$Code", "literals", "[J", false)
  | _ => ("CircuitCycles$Code", "literalCount", "I", false)
def tn_Code : Nat → FieldType := fun k => match k with
  | 0 => (.array .int)
  | 1 => (.array .int)
  | 2 => .int
  | 3 => (.array .int)
  | 4 => (.array .long)
  | _ => .int
theorem nn_Code : ∀ a, a < 6 → ∀ b, b < 6 → a ≠ b → (fn_Code a).2.1 ≠ (fn_Code b).2.1 := by decide +kernel
theorem tk_Code : ∀ k, k < 6 → parseFieldDescriptor (fn_Code k).2.2.1 = some (tn_Code k) := by decide +kernel
def xo_Code (f : Nat → Value) : List Value := [f 0, f 1, f 2, f 3, f 4, f 5]
def rn_L : String := "CircuitCyclesLaw"
abbrev xcl : List vw_C := [(rn_M, fn_M, 91), (rn_C, fn_C, 11), (rn_Tokens, fn_Tokens, 11), (rn_Scanner, fn_Scanner, 10), (rn_Checker, fn_Checker, 14), (rn_Meaning, fn_Meaning, 17), (rn_Grammar, fn_Grammar, 15), (rn_Order, fn_Order, 10), (rn_Machine, fn_Machine, 5), (rn_Circuit, fn_Circuit, 14), (rn_Design, fn_Design, 16), (rn_Parts, fn_Parts, 18), (rn_Code, fn_Code, 6)]
abbrev xt (cI cB cJ cZ : ClassId) : List (ClassId × FieldType) := [(cI, .int), (cB, .byte), (cJ, .long), (cZ, .boolean)]
theorem wn_1_1 : (Jvm.Cond.initialized "CircuitCycles") ∈ xw_G := xw_c1 (List.mem_of_getElem? (i := 1) rfl) rfl
theorem wn_1_13 : (Jvm.Cond.initialized "CircuitCyclesModel") ∈ xw_G := xw_c1 (List.mem_of_getElem? (i := 13) rfl) rfl
theorem wn_1_21 : (Jvm.Cond.initialized "java/lang/IllegalArgumentException") ∈ xw_G := xw_c1 (List.mem_of_getElem? (i := 21) rfl) rfl
theorem wn_1_27 : (Jvm.Cond.initialized "java/lang/IllegalStateException") ∈ xw_G := xw_c1 (List.mem_of_getElem? (i := 27) rfl) rfl
theorem wn_1_31 : (Jvm.Cond.instantiable "CircuitCycles" (11 : Nat)) ∈ xw_G := xw_c1 (List.mem_of_getElem? (i := 31) rfl) rfl
theorem wn_1_36 : (Jvm.Cond.instanceMethod ({ cls := "java/lang/Object", name := "<init>", desc := "()V" } : Jvm.MethodName)) ∈ xw_G := xw_c1 (List.mem_of_getElem? (i := 36) rfl) rfl
theorem wn_1_37 : (Jvm.Cond.code ({ cls := "java/lang/Object", name := "<init>", desc := "()V" } : Jvm.MethodName) object_method_1_code (1 : Nat) (Option.none : Option Jvm.ClassFile.FieldType)) ∈ xw_G := xw_c1 (List.mem_of_getElem? (i := 37) rfl) rfl
theorem wn_1_39 : (Jvm.Cond.instantiable "CircuitCycles$Tokens" (11 : Nat)) ∈ xw_G := xw_c1 (List.mem_of_getElem? (i := 39) rfl) rfl
theorem wn_1_64 : (Jvm.Cond.lays "CircuitCycles$Tokens" "CircuitCycles$Tokens" "kinds" "[I") ∈ xw_G := xw_c1 (List.mem_of_getElem? (i := 64) rfl) rfl
theorem wn_1_66 : (Jvm.Cond.lays "CircuitCycles$Tokens" "CircuitCycles$Tokens" "places" "[I") ∈ xw_G := xw_c1 (List.mem_of_getElem? (i := 66) rfl) rfl
theorem wn_1_68 : (Jvm.Cond.lays "CircuitCycles$Tokens" "CircuitCycles$Tokens" "extras" "[I") ∈ xw_G := xw_c1 (List.mem_of_getElem? (i := 68) rfl) rfl
theorem wn_1_70 : (Jvm.Cond.lays "CircuitCycles$Tokens" "CircuitCycles$Tokens" "size" "I") ∈ xw_G := xw_c1 (List.mem_of_getElem? (i := 70) rfl) rfl
theorem wn_1_72 : (Jvm.Cond.lays "CircuitCycles$Tokens" "CircuitCycles$Tokens" "index" "I") ∈ xw_G := xw_c1 (List.mem_of_getElem? (i := 72) rfl) rfl
theorem wn_1_74 : (Jvm.Cond.lays "CircuitCycles$Tokens" "CircuitCycles$Tokens" "kind" "I") ∈ xw_G := xw_c1 (List.mem_of_getElem? (i := 74) rfl) rfl
theorem wn_1_76 : (Jvm.Cond.lays "CircuitCycles$Tokens" "CircuitCycles$Tokens" "place" "I") ∈ xw_G := xw_c1 (List.mem_of_getElem? (i := 76) rfl) rfl
theorem wn_1_78 : (Jvm.Cond.lays "CircuitCycles$Tokens" "CircuitCycles$Tokens" "extra" "I") ∈ xw_G := xw_c1 (List.mem_of_getElem? (i := 78) rfl) rfl
theorem wn_1_80 : (Jvm.Cond.lays "CircuitCycles$Tokens" "CircuitCycles$Tokens" "faultCode" "I") ∈ xw_G := xw_c1 (List.mem_of_getElem? (i := 80) rfl) rfl
theorem wn_1_82 : (Jvm.Cond.lays "CircuitCycles$Tokens" "CircuitCycles$Tokens" "faultPlace" "I") ∈ xw_G := xw_c1 (List.mem_of_getElem? (i := 82) rfl) rfl
theorem wn_1_84 : (Jvm.Cond.lays "CircuitCycles$Tokens" "CircuitCycles$Tokens" "opens" "I") ∈ xw_G := xw_c1 (List.mem_of_getElem? (i := 84) rfl) rfl
theorem wn_1_87 : (Jvm.Cond.arrayClass Jvm.ClassFile.FieldType.byte) ∈ xw_G := xw_c1 (List.mem_of_getElem? (i := 87) rfl) rfl
theorem wn_1_88 : (Jvm.Cond.arrayClass Jvm.ClassFile.FieldType.int) ∈ xw_G := xw_c1 (List.mem_of_getElem? (i := 88) rfl) rfl
theorem wn_1_90 : (Jvm.Cond.instantiable "CircuitCycles$Scanner" (10 : Nat)) ∈ xw_G := xw_c1 (List.mem_of_getElem? (i := 90) rfl) rfl
theorem wn_1_106 : (Jvm.Cond.laysFinal "CircuitCycles$Scanner" "CircuitCycles$Scanner" "tokens" "LCircuitCycles$Tokens;") ∈ xw_G := xw_c1 (List.mem_of_getElem? (i := 106) rfl) rfl
theorem wn_1_108 : (Jvm.Cond.lays "CircuitCycles$Scanner" "CircuitCycles$Scanner" "text" "[B") ∈ xw_G := xw_c1 (List.mem_of_getElem? (i := 108) rfl) rfl
theorem wn_1_110 : (Jvm.Cond.lays "CircuitCycles$Scanner" "CircuitCycles$Scanner" "length" "I") ∈ xw_G := xw_c1 (List.mem_of_getElem? (i := 110) rfl) rfl
theorem wn_1_112 : (Jvm.Cond.lays "CircuitCycles$Scanner" "CircuitCycles$Scanner" "code" "LCircuitCycles$Code;") ∈ xw_G := xw_c1 (List.mem_of_getElem? (i := 112) rfl) rfl
theorem wn_1_114 : (Jvm.Cond.laysFinal "CircuitCycles$Scanner" "CircuitCycles$Scanner" "heads" "[I") ∈ xw_G := xw_c1 (List.mem_of_getElem? (i := 114) rfl) rfl
theorem wn_1_116 : (Jvm.Cond.lays "CircuitCycles$Scanner" "CircuitCycles$Scanner" "nexts" "[I") ∈ xw_G := xw_c1 (List.mem_of_getElem? (i := 116) rfl) rfl
theorem wn_1_118 : (Jvm.Cond.lays "CircuitCycles$Scanner" "CircuitCycles$Scanner" "wordStarts" "[I") ∈ xw_G := xw_c1 (List.mem_of_getElem? (i := 118) rfl) rfl
theorem wn_1_120 : (Jvm.Cond.lays "CircuitCycles$Scanner" "CircuitCycles$Scanner" "wordStops" "[I") ∈ xw_G := xw_c1 (List.mem_of_getElem? (i := 120) rfl) rfl
theorem wn_1_122 : (Jvm.Cond.lays "CircuitCycles$Scanner" "CircuitCycles$Scanner" "wordKinds" "[I") ∈ xw_G := xw_c1 (List.mem_of_getElem? (i := 122) rfl) rfl
theorem wn_1_124 : (Jvm.Cond.lays "CircuitCycles$Scanner" "CircuitCycles$Scanner" "words" "I") ∈ xw_G := xw_c1 (List.mem_of_getElem? (i := 124) rfl) rfl
theorem wn_1_128 : (Jvm.Cond.instantiable "CircuitCycles$Checker" (14 : Nat)) ∈ xw_G := xw_c1 (List.mem_of_getElem? (i := 128) rfl) rfl
theorem wn_1_151 : (Jvm.Cond.laysFinal "CircuitCycles$Checker" "CircuitCycles$Checker" "tokens" "LCircuitCycles$Tokens;") ∈ xw_G := xw_c1 (List.mem_of_getElem? (i := 151) rfl) rfl
theorem wn_1_153 : (Jvm.Cond.lays "CircuitCycles$Checker" "CircuitCycles$Checker" "parts" "LCircuitCycles$Parts;") ∈ xw_G := xw_c1 (List.mem_of_getElem? (i := 153) rfl) rfl
theorem wn_1_155 : (Jvm.Cond.lays "CircuitCycles$Checker" "CircuitCycles$Checker" "code" "LCircuitCycles$Code;") ∈ xw_G := xw_c1 (List.mem_of_getElem? (i := 155) rfl) rfl
theorem wn_1_157 : (Jvm.Cond.lays "CircuitCycles$Checker" "CircuitCycles$Checker" "module" "I") ∈ xw_G := xw_c1 (List.mem_of_getElem? (i := 157) rfl) rfl
theorem wn_1_159 : (Jvm.Cond.lays "CircuitCycles$Checker" "CircuitCycles$Checker" "firstDecl" "I") ∈ xw_G := xw_c1 (List.mem_of_getElem? (i := 159) rfl) rfl
theorem wn_1_161 : (Jvm.Cond.lays "CircuitCycles$Checker" "CircuitCycles$Checker" "modules" "[I") ∈ xw_G := xw_c1 (List.mem_of_getElem? (i := 161) rfl) rfl
theorem wn_1_163 : (Jvm.Cond.lays "CircuitCycles$Checker" "CircuitCycles$Checker" "decls" "[I") ∈ xw_G := xw_c1 (List.mem_of_getElem? (i := 163) rfl) rfl
theorem wn_1_165 : (Jvm.Cond.lays "CircuitCycles$Checker" "CircuitCycles$Checker" "stamps" "[I") ∈ xw_G := xw_c1 (List.mem_of_getElem? (i := 165) rfl) rfl
theorem wn_1_167 : (Jvm.Cond.laysFinal "CircuitCycles$Checker" "CircuitCycles$Checker" "widths" "[I") ∈ xw_G := xw_c1 (List.mem_of_getElem? (i := 167) rfl) rfl
theorem wn_1_169 : (Jvm.Cond.lays "CircuitCycles$Checker" "CircuitCycles$Checker" "top" "I") ∈ xw_G := xw_c1 (List.mem_of_getElem? (i := 169) rfl) rfl
theorem wn_1_171 : (Jvm.Cond.lays "CircuitCycles$Checker" "CircuitCycles$Checker" "expStart" "I") ∈ xw_G := xw_c1 (List.mem_of_getElem? (i := 171) rfl) rfl
theorem wn_1_173 : (Jvm.Cond.lays "CircuitCycles$Checker" "CircuitCycles$Checker" "cost" "I") ∈ xw_G := xw_c1 (List.mem_of_getElem? (i := 173) rfl) rfl
theorem wn_1_175 : (Jvm.Cond.lays "CircuitCycles$Checker" "CircuitCycles$Checker" "faultCode" "I") ∈ xw_G := xw_c1 (List.mem_of_getElem? (i := 175) rfl) rfl
theorem wn_1_177 : (Jvm.Cond.lays "CircuitCycles$Checker" "CircuitCycles$Checker" "faultPlace" "I") ∈ xw_G := xw_c1 (List.mem_of_getElem? (i := 177) rfl) rfl
theorem wn_1_181 : (Jvm.Cond.instantiable "CircuitCycles$Grammar" (15 : Nat)) ∈ xw_G := xw_c1 (List.mem_of_getElem? (i := 181) rfl) rfl
theorem wn_1_183 : (Jvm.Cond.instantiable "CircuitCycles$Meaning" (17 : Nat)) ∈ xw_G := xw_c1 (List.mem_of_getElem? (i := 183) rfl) rfl
theorem wn_1_205 : (Jvm.Cond.laysFinal "CircuitCycles$Meaning" "CircuitCycles$Meaning" "checker" "LCircuitCycles$Checker;") ∈ xw_G := xw_c1 (List.mem_of_getElem? (i := 205) rfl) rfl
theorem wn_1_207 : (Jvm.Cond.lays "CircuitCycles$Meaning" "CircuitCycles$Meaning" "design" "LCircuitCycles$Design;") ∈ xw_G := xw_c1 (List.mem_of_getElem? (i := 207) rfl) rfl
theorem wn_1_209 : (Jvm.Cond.lays "CircuitCycles$Meaning" "CircuitCycles$Meaning" "parts" "LCircuitCycles$Parts;") ∈ xw_G := xw_c1 (List.mem_of_getElem? (i := 209) rfl) rfl
theorem wn_1_211 : (Jvm.Cond.lays "CircuitCycles$Meaning" "CircuitCycles$Meaning" "code" "LCircuitCycles$Code;") ∈ xw_G := xw_c1 (List.mem_of_getElem? (i := 211) rfl) rfl
theorem wn_1_213 : (Jvm.Cond.lays "CircuitCycles$Meaning" "CircuitCycles$Meaning" "rangeWidth" "I") ∈ xw_G := xw_c1 (List.mem_of_getElem? (i := 213) rfl) rfl
theorem wn_1_215 : (Jvm.Cond.lays "CircuitCycles$Meaning" "CircuitCycles$Meaning" "target" "I") ∈ xw_G := xw_c1 (List.mem_of_getElem? (i := 215) rfl) rfl
theorem wn_1_217 : (Jvm.Cond.lays "CircuitCycles$Meaning" "CircuitCycles$Meaning" "targetLow" "I") ∈ xw_G := xw_c1 (List.mem_of_getElem? (i := 217) rfl) rfl
theorem wn_1_219 : (Jvm.Cond.lays "CircuitCycles$Meaning" "CircuitCycles$Meaning" "targetWidth" "I") ∈ xw_G := xw_c1 (List.mem_of_getElem? (i := 219) rfl) rfl
theorem wn_1_221 : (Jvm.Cond.lays "CircuitCycles$Meaning" "CircuitCycles$Meaning" "port" "I") ∈ xw_G := xw_c1 (List.mem_of_getElem? (i := 221) rfl) rfl
theorem wn_1_223 : (Jvm.Cond.lays "CircuitCycles$Meaning" "CircuitCycles$Meaning" "alwaysNumber" "I") ∈ xw_G := xw_c1 (List.mem_of_getElem? (i := 223) rfl) rfl
theorem wn_1_225 : (Jvm.Cond.lays "CircuitCycles$Meaning" "CircuitCycles$Meaning" "alwaysStart" "I") ∈ xw_G := xw_c1 (List.mem_of_getElem? (i := 225) rfl) rfl
theorem wn_1_227 : (Jvm.Cond.lays "CircuitCycles$Meaning" "CircuitCycles$Meaning" "stores" "Z") ∈ xw_G := xw_c1 (List.mem_of_getElem? (i := 227) rfl) rfl
theorem wn_1_229 : (Jvm.Cond.laysFinal "CircuitCycles$Meaning" "CircuitCycles$Meaning" "jumps" "[I") ∈ xw_G := xw_c1 (List.mem_of_getElem? (i := 229) rfl) rfl
theorem wn_1_231 : (Jvm.Cond.laysFinal "CircuitCycles$Meaning" "CircuitCycles$Meaning" "exits" "[I") ∈ xw_G := xw_c1 (List.mem_of_getElem? (i := 231) rfl) rfl
theorem wn_1_233 : (Jvm.Cond.laysFinal "CircuitCycles$Meaning" "CircuitCycles$Meaning" "matches" "[I") ∈ xw_G := xw_c1 (List.mem_of_getElem? (i := 233) rfl) rfl
theorem wn_1_235 : (Jvm.Cond.laysFinal "CircuitCycles$Meaning" "CircuitCycles$Meaning" "widths" "[I") ∈ xw_G := xw_c1 (List.mem_of_getElem? (i := 235) rfl) rfl
theorem wn_1_237 : (Jvm.Cond.lays "CircuitCycles$Meaning" "CircuitCycles$Meaning" "depth" "I") ∈ xw_G := xw_c1 (List.mem_of_getElem? (i := 237) rfl) rfl
theorem wn_2_19 : (Jvm.Cond.laysFinal "CircuitCycles$Grammar" "CircuitCycles$Grammar" "tokens" "LCircuitCycles$Tokens;") ∈ xw_G := xw_c2 (List.mem_of_getElem? (i := 19) rfl) rfl
theorem wn_2_21 : (Jvm.Cond.laysFinal "CircuitCycles$Grammar" "CircuitCycles$Grammar" "checker" "LCircuitCycles$Checker;") ∈ xw_G := xw_c2 (List.mem_of_getElem? (i := 21) rfl) rfl
theorem wn_2_23 : (Jvm.Cond.laysFinal "CircuitCycles$Grammar" "CircuitCycles$Grammar" "meaning" "LCircuitCycles$Meaning;") ∈ xw_G := xw_c2 (List.mem_of_getElem? (i := 23) rfl) rfl
theorem wn_2_25 : (Jvm.Cond.lays "CircuitCycles$Grammar" "CircuitCycles$Grammar" "state" "I") ∈ xw_G := xw_c2 (List.mem_of_getElem? (i := 25) rfl) rfl
theorem wn_2_27 : (Jvm.Cond.lays "CircuitCycles$Grammar" "CircuitCycles$Grammar" "purpose" "I") ∈ xw_G := xw_c2 (List.mem_of_getElem? (i := 27) rfl) rfl
theorem wn_2_29 : (Jvm.Cond.lays "CircuitCycles$Grammar" "CircuitCycles$Grammar" "signPlace" "I") ∈ xw_G := xw_c2 (List.mem_of_getElem? (i := 29) rfl) rfl
theorem wn_2_31 : (Jvm.Cond.lays "CircuitCycles$Grammar" "CircuitCycles$Grammar" "linkPlace" "I") ∈ xw_G := xw_c2 (List.mem_of_getElem? (i := 31) rfl) rfl
theorem wn_2_33 : (Jvm.Cond.lays "CircuitCycles$Grammar" "CircuitCycles$Grammar" "expPlace" "I") ∈ xw_G := xw_c2 (List.mem_of_getElem? (i := 33) rfl) rfl
theorem wn_2_35 : (Jvm.Cond.lays "CircuitCycles$Grammar" "CircuitCycles$Grammar" "expIndex" "I") ∈ xw_G := xw_c2 (List.mem_of_getElem? (i := 35) rfl) rfl
theorem wn_2_37 : (Jvm.Cond.laysFinal "CircuitCycles$Grammar" "CircuitCycles$Grammar" "contexts" "[I") ∈ xw_G := xw_c2 (List.mem_of_getElem? (i := 37) rfl) rfl
theorem wn_2_39 : (Jvm.Cond.lays "CircuitCycles$Grammar" "CircuitCycles$Grammar" "depth" "I") ∈ xw_G := xw_c2 (List.mem_of_getElem? (i := 39) rfl) rfl
theorem wn_2_41 : (Jvm.Cond.lays "CircuitCycles$Grammar" "CircuitCycles$Grammar" "heldKinds" "[I") ∈ xw_G := xw_c2 (List.mem_of_getElem? (i := 41) rfl) rfl
theorem wn_2_43 : (Jvm.Cond.lays "CircuitCycles$Grammar" "CircuitCycles$Grammar" "heldPlaces" "[I") ∈ xw_G := xw_c2 (List.mem_of_getElem? (i := 43) rfl) rfl
theorem wn_2_45 : (Jvm.Cond.lays "CircuitCycles$Grammar" "CircuitCycles$Grammar" "heldTimes" "[I") ∈ xw_G := xw_c2 (List.mem_of_getElem? (i := 45) rfl) rfl
theorem wn_2_47 : (Jvm.Cond.lays "CircuitCycles$Grammar" "CircuitCycles$Grammar" "held" "I") ∈ xw_G := xw_c2 (List.mem_of_getElem? (i := 47) rfl) rfl
theorem wn_2_51 : (Jvm.Cond.instantiable "CircuitCycles$Order" (10 : Nat)) ∈ xw_G := xw_c2 (List.mem_of_getElem? (i := 51) rfl) rfl
theorem wn_2_66 : (Jvm.Cond.lays "CircuitCycles$Order" "CircuitCycles$Order" "circuit" "LCircuitCycles$Circuit;") ∈ xw_G := xw_c2 (List.mem_of_getElem? (i := 66) rfl) rfl
theorem wn_2_68 : (Jvm.Cond.laysFinal "CircuitCycles$Order" "CircuitCycles$Order" "numbers" "[I") ∈ xw_G := xw_c2 (List.mem_of_getElem? (i := 68) rfl) rfl
theorem wn_2_70 : (Jvm.Cond.laysFinal "CircuitCycles$Order" "CircuitCycles$Order" "lowest" "[I") ∈ xw_G := xw_c2 (List.mem_of_getElem? (i := 70) rfl) rfl
theorem wn_2_72 : (Jvm.Cond.laysFinal "CircuitCycles$Order" "CircuitCycles$Order" "cursors" "[I") ∈ xw_G := xw_c2 (List.mem_of_getElem? (i := 72) rfl) rfl
theorem wn_2_74 : (Jvm.Cond.laysFinal "CircuitCycles$Order" "CircuitCycles$Order" "path" "[I") ∈ xw_G := xw_c2 (List.mem_of_getElem? (i := 74) rfl) rfl
theorem wn_2_76 : (Jvm.Cond.laysFinal "CircuitCycles$Order" "CircuitCycles$Order" "open" "[I") ∈ xw_G := xw_c2 (List.mem_of_getElem? (i := 76) rfl) rfl
theorem wn_2_78 : (Jvm.Cond.lays "CircuitCycles$Order" "CircuitCycles$Order" "pathSize" "I") ∈ xw_G := xw_c2 (List.mem_of_getElem? (i := 78) rfl) rfl
theorem wn_2_80 : (Jvm.Cond.lays "CircuitCycles$Order" "CircuitCycles$Order" "openSize" "I") ∈ xw_G := xw_c2 (List.mem_of_getElem? (i := 80) rfl) rfl
theorem wn_2_82 : (Jvm.Cond.lays "CircuitCycles$Order" "CircuitCycles$Order" "seen" "I") ∈ xw_G := xw_c2 (List.mem_of_getElem? (i := 82) rfl) rfl
theorem wn_2_84 : (Jvm.Cond.lays "CircuitCycles$Order" "CircuitCycles$Order" "looped" "I") ∈ xw_G := xw_c2 (List.mem_of_getElem? (i := 84) rfl) rfl
theorem wn_2_88 : (Jvm.Cond.instantiable "CircuitCycles$Machine" (5 : Nat)) ∈ xw_G := xw_c2 (List.mem_of_getElem? (i := 88) rfl) rfl
theorem wn_2_98 : (Jvm.Cond.laysFinal "CircuitCycles$Machine" "CircuitCycles$Machine" "values" "[J") ∈ xw_G := xw_c2 (List.mem_of_getElem? (i := 98) rfl) rfl
theorem wn_2_100 : (Jvm.Cond.laysFinal "CircuitCycles$Machine" "CircuitCycles$Machine" "nexts" "[J") ∈ xw_G := xw_c2 (List.mem_of_getElem? (i := 100) rfl) rfl
theorem wn_2_102 : (Jvm.Cond.laysFinal "CircuitCycles$Machine" "CircuitCycles$Machine" "stack" "[J") ∈ xw_G := xw_c2 (List.mem_of_getElem? (i := 102) rfl) rfl
theorem wn_2_104 : (Jvm.Cond.lays "CircuitCycles$Machine" "CircuitCycles$Machine" "cycle" "I") ∈ xw_G := xw_c2 (List.mem_of_getElem? (i := 104) rfl) rfl
theorem wn_2_106 : (Jvm.Cond.lays "CircuitCycles$Machine" "CircuitCycles$Machine" "settled" "Z") ∈ xw_G := xw_c2 (List.mem_of_getElem? (i := 106) rfl) rfl
theorem wn_2_109 : (Jvm.Cond.arrayClass Jvm.ClassFile.FieldType.long) ∈ xw_G := xw_c2 (List.mem_of_getElem? (i := 109) rfl) rfl
theorem wn_2_111 : (Jvm.Cond.instantiable "CircuitCycles$Circuit" (14 : Nat)) ∈ xw_G := xw_c2 (List.mem_of_getElem? (i := 111) rfl) rfl
theorem wn_2_117 : (Jvm.Cond.instantiable "CircuitCycles$Design" (16 : Nat)) ∈ xw_G := xw_c2 (List.mem_of_getElem? (i := 117) rfl) rfl
theorem wn_2_123 : (Jvm.Cond.instantiable "CircuitCycles$Parts" (18 : Nat)) ∈ xw_G := xw_c2 (List.mem_of_getElem? (i := 123) rfl) rfl
theorem wn_2_182 : (Jvm.Cond.lays "CircuitCycles$Parts" "CircuitCycles$Parts" "declCount" "I") ∈ xw_G := xw_c2 (List.mem_of_getElem? (i := 182) rfl) rfl
theorem wn_2_184 : (Jvm.Cond.lays "CircuitCycles$Parts" "CircuitCycles$Parts" "places" "[I") ∈ xw_G := xw_c2 (List.mem_of_getElem? (i := 184) rfl) rfl
theorem wn_2_186 : (Jvm.Cond.lays "CircuitCycles$Parts" "CircuitCycles$Parts" "widths" "[I") ∈ xw_G := xw_c2 (List.mem_of_getElem? (i := 186) rfl) rfl
theorem wn_2_188 : (Jvm.Cond.lays "CircuitCycles$Parts" "CircuitCycles$Parts" "sorts" "[I") ∈ xw_G := xw_c2 (List.mem_of_getElem? (i := 188) rfl) rfl
theorem wn_2_190 : (Jvm.Cond.lays "CircuitCycles$Parts" "CircuitCycles$Parts" "firsts" "[J") ∈ xw_G := xw_c2 (List.mem_of_getElem? (i := 190) rfl) rfl
theorem wn_2_192 : (Jvm.Cond.lays "CircuitCycles$Parts" "CircuitCycles$Parts" "names" "[I") ∈ xw_G := xw_c2 (List.mem_of_getElem? (i := 192) rfl) rfl
theorem wn_2_194 : (Jvm.Cond.lays "CircuitCycles$Parts" "CircuitCycles$Parts" "setters" "[I") ∈ xw_G := xw_c2 (List.mem_of_getElem? (i := 194) rfl) rfl
theorem wn_2_196 : (Jvm.Cond.lays "CircuitCycles$Parts" "CircuitCycles$Parts" "linkers" "[I") ∈ xw_G := xw_c2 (List.mem_of_getElem? (i := 196) rfl) rfl
theorem wn_2_198 : (Jvm.Cond.lays "CircuitCycles$Parts" "CircuitCycles$Parts" "starts" "[I") ∈ xw_G := xw_c2 (List.mem_of_getElem? (i := 198) rfl) rfl
theorem wn_2_200 : (Jvm.Cond.lays "CircuitCycles$Parts" "CircuitCycles$Parts" "stops" "[I") ∈ xw_G := xw_c2 (List.mem_of_getElem? (i := 200) rfl) rfl
theorem wn_2_202 : (Jvm.Cond.lays "CircuitCycles$Parts" "CircuitCycles$Parts" "childCount" "I") ∈ xw_G := xw_c2 (List.mem_of_getElem? (i := 202) rfl) rfl
theorem wn_2_204 : (Jvm.Cond.lays "CircuitCycles$Parts" "CircuitCycles$Parts" "childModules" "[I") ∈ xw_G := xw_c2 (List.mem_of_getElem? (i := 204) rfl) rfl
theorem wn_2_206 : (Jvm.Cond.lays "CircuitCycles$Parts" "CircuitCycles$Parts" "childPlaces" "[I") ∈ xw_G := xw_c2 (List.mem_of_getElem? (i := 206) rfl) rfl
theorem wn_2_208 : (Jvm.Cond.lays "CircuitCycles$Parts" "CircuitCycles$Parts" "firstLinks" "[I") ∈ xw_G := xw_c2 (List.mem_of_getElem? (i := 208) rfl) rfl
theorem wn_2_210 : (Jvm.Cond.lays "CircuitCycles$Parts" "CircuitCycles$Parts" "linkCount" "I") ∈ xw_G := xw_c2 (List.mem_of_getElem? (i := 210) rfl) rfl
theorem wn_2_212 : (Jvm.Cond.lays "CircuitCycles$Parts" "CircuitCycles$Parts" "linkPorts" "[I") ∈ xw_G := xw_c2 (List.mem_of_getElem? (i := 212) rfl) rfl
theorem wn_2_214 : (Jvm.Cond.lays "CircuitCycles$Parts" "CircuitCycles$Parts" "linkStarts" "[I") ∈ xw_G := xw_c2 (List.mem_of_getElem? (i := 214) rfl) rfl
theorem wn_2_216 : (Jvm.Cond.lays "CircuitCycles$Parts" "CircuitCycles$Parts" "linkStops" "[I") ∈ xw_G := xw_c2 (List.mem_of_getElem? (i := 216) rfl) rfl
theorem wn_2_220 : (Jvm.Cond.instantiable "CircuitCycles$Code" (6 : Nat)) ∈ xw_G := xw_c2 (List.mem_of_getElem? (i := 220) rfl) rfl
theorem wn_3_0 : (Jvm.Cond.lays "CircuitCycles$Code" "CircuitCycles$Code" "ops" "[I") ∈ xw_G := xw_c3 (List.mem_of_getElem? (i := 0) rfl) rfl
theorem wn_3_2 : (Jvm.Cond.lays "CircuitCycles$Code" "CircuitCycles$Code" "args" "[I") ∈ xw_G := xw_c3 (List.mem_of_getElem? (i := 2) rfl) rfl
theorem wn_3_4 : (Jvm.Cond.lays "CircuitCycles$Code" "CircuitCycles$Code" "size" "I") ∈ xw_G := xw_c3 (List.mem_of_getElem? (i := 4) rfl) rfl
theorem wn_3_6 : (Jvm.Cond.lays "CircuitCycles$Code" "CircuitCycles$Code" "literalWidths" "[I") ∈ xw_G := xw_c3 (List.mem_of_getElem? (i := 6) rfl) rfl
theorem wn_3_8 : (Jvm.Cond.lays "CircuitCycles$Code" "CircuitCycles$Code" "literals" "[J") ∈ xw_G := xw_c3 (List.mem_of_getElem? (i := 8) rfl) rfl
theorem wn_3_10 : (Jvm.Cond.lays "CircuitCycles$Code" "CircuitCycles$Code" "literalCount" "I") ∈ xw_G := xw_c3 (List.mem_of_getElem? (i := 10) rfl) rfl
theorem wn_3_48 : (Jvm.Cond.laysFinal "CircuitCycles$Design" "CircuitCycles$Design" "parts" "LCircuitCycles$Parts;") ∈ xw_G := xw_c3 (List.mem_of_getElem? (i := 48) rfl) rfl
theorem wn_3_50 : (Jvm.Cond.laysFinal "CircuitCycles$Design" "CircuitCycles$Design" "code" "LCircuitCycles$Code;") ∈ xw_G := xw_c3 (List.mem_of_getElem? (i := 50) rfl) rfl
theorem wn_3_52 : (Jvm.Cond.lays "CircuitCycles$Design" "CircuitCycles$Design" "text" "[B") ∈ xw_G := xw_c3 (List.mem_of_getElem? (i := 52) rfl) rfl
theorem wn_3_54 : (Jvm.Cond.lays "CircuitCycles$Design" "CircuitCycles$Design" "length" "I") ∈ xw_G := xw_c3 (List.mem_of_getElem? (i := 54) rfl) rfl
theorem wn_3_56 : (Jvm.Cond.lays "CircuitCycles$Design" "CircuitCycles$Design" "moduleCount" "I") ∈ xw_G := xw_c3 (List.mem_of_getElem? (i := 56) rfl) rfl
theorem wn_3_58 : (Jvm.Cond.lays "CircuitCycles$Design" "CircuitCycles$Design" "inputBits" "I") ∈ xw_G := xw_c3 (List.mem_of_getElem? (i := 58) rfl) rfl
theorem wn_3_60 : (Jvm.Cond.lays "CircuitCycles$Design" "CircuitCycles$Design" "places" "[I") ∈ xw_G := xw_c3 (List.mem_of_getElem? (i := 60) rfl) rfl
theorem wn_3_62 : (Jvm.Cond.lays "CircuitCycles$Design" "CircuitCycles$Design" "firstDecls" "[I") ∈ xw_G := xw_c3 (List.mem_of_getElem? (i := 62) rfl) rfl
theorem wn_3_64 : (Jvm.Cond.lays "CircuitCycles$Design" "CircuitCycles$Design" "portCounts" "[I") ∈ xw_G := xw_c3 (List.mem_of_getElem? (i := 64) rfl) rfl
theorem wn_3_66 : (Jvm.Cond.lays "CircuitCycles$Design" "CircuitCycles$Design" "firstChildren" "[I") ∈ xw_G := xw_c3 (List.mem_of_getElem? (i := 66) rfl) rfl
theorem wn_3_68 : (Jvm.Cond.lays "CircuitCycles$Design" "CircuitCycles$Design" "firstPieces" "[I") ∈ xw_G := xw_c3 (List.mem_of_getElem? (i := 68) rfl) rfl
theorem wn_3_70 : (Jvm.Cond.laysFinal "CircuitCycles$Design" "CircuitCycles$Design" "sums" "[[I") ∈ xw_G := xw_c3 (List.mem_of_getElem? (i := 70) rfl) rfl
theorem wn_3_72 : (Jvm.Cond.lays "CircuitCycles$Design" "CircuitCycles$Design" "pieceCount" "I") ∈ xw_G := xw_c3 (List.mem_of_getElem? (i := 72) rfl) rfl
theorem wn_3_74 : (Jvm.Cond.lays "CircuitCycles$Design" "CircuitCycles$Design" "pieceStarts" "[I") ∈ xw_G := xw_c3 (List.mem_of_getElem? (i := 74) rfl) rfl
theorem wn_3_76 : (Jvm.Cond.lays "CircuitCycles$Design" "CircuitCycles$Design" "pieceStops" "[I") ∈ xw_G := xw_c3 (List.mem_of_getElem? (i := 76) rfl) rfl
theorem wn_3_78 : (Jvm.Cond.lays "CircuitCycles$Design" "CircuitCycles$Design" "pieceAsserts" "[I") ∈ xw_G := xw_c3 (List.mem_of_getElem? (i := 78) rfl) rfl
theorem wn_3_116 : (Jvm.Cond.laysFinal "CircuitCycles$Circuit" "CircuitCycles$Circuit" "design" "LCircuitCycles$Design;") ∈ xw_G := xw_c3 (List.mem_of_getElem? (i := 116) rfl) rfl
theorem wn_3_118 : (Jvm.Cond.lays "CircuitCycles$Circuit" "CircuitCycles$Circuit" "instances" "I") ∈ xw_G := xw_c3 (List.mem_of_getElem? (i := 118) rfl) rfl
theorem wn_3_120 : (Jvm.Cond.lays "CircuitCycles$Circuit" "CircuitCycles$Circuit" "signals" "I") ∈ xw_G := xw_c3 (List.mem_of_getElem? (i := 120) rfl) rfl
theorem wn_3_122 : (Jvm.Cond.lays "CircuitCycles$Circuit" "CircuitCycles$Circuit" "bases" "[I") ∈ xw_G := xw_c3 (List.mem_of_getElem? (i := 122) rfl) rfl
theorem wn_3_124 : (Jvm.Cond.lays "CircuitCycles$Circuit" "CircuitCycles$Circuit" "modules" "[I") ∈ xw_G := xw_c3 (List.mem_of_getElem? (i := 124) rfl) rfl
theorem wn_3_126 : (Jvm.Cond.laysFinal "CircuitCycles$Circuit" "CircuitCycles$Circuit" "parents" "[I") ∈ xw_G := xw_c3 (List.mem_of_getElem? (i := 126) rfl) rfl
theorem wn_3_128 : (Jvm.Cond.laysFinal "CircuitCycles$Circuit" "CircuitCycles$Circuit" "children" "[I") ∈ xw_G := xw_c3 (List.mem_of_getElem? (i := 128) rfl) rfl
theorem wn_3_130 : (Jvm.Cond.laysFinal "CircuitCycles$Circuit" "CircuitCycles$Circuit" "decls" "[I") ∈ xw_G := xw_c3 (List.mem_of_getElem? (i := 130) rfl) rfl
theorem wn_3_132 : (Jvm.Cond.laysFinal "CircuitCycles$Circuit" "CircuitCycles$Circuit" "starts" "[I") ∈ xw_G := xw_c3 (List.mem_of_getElem? (i := 132) rfl) rfl
theorem wn_3_134 : (Jvm.Cond.laysFinal "CircuitCycles$Circuit" "CircuitCycles$Circuit" "stops" "[I") ∈ xw_G := xw_c3 (List.mem_of_getElem? (i := 134) rfl) rfl
theorem wn_3_136 : (Jvm.Cond.laysFinal "CircuitCycles$Circuit" "CircuitCycles$Circuit" "frames" "[I") ∈ xw_G := xw_c3 (List.mem_of_getElem? (i := 136) rfl) rfl
theorem wn_3_138 : (Jvm.Cond.laysFinal "CircuitCycles$Circuit" "CircuitCycles$Circuit" "sources" "[I") ∈ xw_G := xw_c3 (List.mem_of_getElem? (i := 138) rfl) rfl
theorem wn_3_140 : (Jvm.Cond.laysFinal "CircuitCycles$Circuit" "CircuitCycles$Circuit" "order" "[I") ∈ xw_G := xw_c3 (List.mem_of_getElem? (i := 140) rfl) rfl
theorem wn_3_142 : (Jvm.Cond.lays "CircuitCycles$Circuit" "CircuitCycles$Circuit" "ordered" "I") ∈ xw_G := xw_c3 (List.mem_of_getElem? (i := 142) rfl) rfl
theorem wn_3_146 : (Jvm.Cond.fieldLink "CircuitCycles" (74 : Nat) "CircuitCycles" "length" "I") ∈ xw_G := xw_c3 (List.mem_of_getElem? (i := 146) rfl) rfl
theorem wn_3_154 : (Jvm.Cond.fieldLink "CircuitCycles" (64 : Nat) "CircuitCycles" "circuit" "LCircuitCycles$Circuit;") ∈ xw_G := xw_c3 (List.mem_of_getElem? (i := 154) rfl) rfl
theorem wn_3_156 : (Jvm.Cond.lays "CircuitCycles" "CircuitCycles" "tape" "[B") ∈ xw_G := xw_c3 (List.mem_of_getElem? (i := 156) rfl) rfl
theorem wn_3_158 : (Jvm.Cond.lays "CircuitCycles" "CircuitCycles" "length" "I") ∈ xw_G := xw_c3 (List.mem_of_getElem? (i := 158) rfl) rfl
theorem wn_3_160 : (Jvm.Cond.lays "CircuitCycles" "CircuitCycles" "faultCode" "I") ∈ xw_G := xw_c3 (List.mem_of_getElem? (i := 160) rfl) rfl
theorem wn_3_162 : (Jvm.Cond.laysFinal "CircuitCycles" "CircuitCycles" "tokens" "LCircuitCycles$Tokens;") ∈ xw_G := xw_c3 (List.mem_of_getElem? (i := 162) rfl) rfl
theorem wn_3_164 : (Jvm.Cond.laysFinal "CircuitCycles" "CircuitCycles" "scanner" "LCircuitCycles$Scanner;") ∈ xw_G := xw_c3 (List.mem_of_getElem? (i := 164) rfl) rfl
theorem wn_3_166 : (Jvm.Cond.laysFinal "CircuitCycles" "CircuitCycles" "checker" "LCircuitCycles$Checker;") ∈ xw_G := xw_c3 (List.mem_of_getElem? (i := 166) rfl) rfl
theorem wn_3_168 : (Jvm.Cond.laysFinal "CircuitCycles" "CircuitCycles" "grammar" "LCircuitCycles$Grammar;") ∈ xw_G := xw_c3 (List.mem_of_getElem? (i := 168) rfl) rfl
theorem wn_3_170 : (Jvm.Cond.laysFinal "CircuitCycles" "CircuitCycles" "order" "LCircuitCycles$Order;") ∈ xw_G := xw_c3 (List.mem_of_getElem? (i := 170) rfl) rfl
theorem wn_3_172 : (Jvm.Cond.laysFinal "CircuitCycles" "CircuitCycles" "machine" "LCircuitCycles$Machine;") ∈ xw_G := xw_c3 (List.mem_of_getElem? (i := 172) rfl) rfl
theorem wn_3_174 : (Jvm.Cond.lays "CircuitCycles" "CircuitCycles" "circuit" "LCircuitCycles$Circuit;") ∈ xw_G := xw_c3 (List.mem_of_getElem? (i := 174) rfl) rfl
theorem wn_3_176 : (Jvm.Cond.lays "CircuitCycles" "CircuitCycles" "spare" "LCircuitCycles$Circuit;") ∈ xw_G := xw_c3 (List.mem_of_getElem? (i := 176) rfl) rfl
theorem wn_7_126 : (Jvm.Cond.classLink "CircuitCycles" (98 : Nat) "java/lang/IllegalArgumentException") ∈ xw_G := xw_c7 (List.mem_of_getElem? (i := 126) rfl) rfl
theorem wn_7_144 : (Jvm.Cond.classLink "CircuitCyclesLaw" (25 : Nat) "java/lang/IllegalStateException") ∈ xw_G := xw_c7 (List.mem_of_getElem? (i := 144) rfl) rfl
theorem wn_7_145 : (Jvm.Cond.methodLink "CircuitCyclesLaw" (21 : Nat) ({ cls := "CircuitCycles", name := "count", desc := "(I)I" } : Jvm.MethodName)) ∈ xw_G := xw_c7 (List.mem_of_getElem? (i := 145) rfl) rfl
theorem wn_7_146 : (Jvm.Cond.instanceMethod ({ cls := "CircuitCycles", name := "count", desc := "(I)I" } : Jvm.MethodName)) ∈ xw_G := xw_c7 (List.mem_of_getElem? (i := 146) rfl) rfl
theorem wn_7_147 : (Jvm.Cond.selects "CircuitCycles" ({ cls := "CircuitCycles", name := "count", desc := "(I)I" } : Jvm.MethodName) ({ cls := "CircuitCycles", name := "count", desc := "(I)I" } : Jvm.MethodName)) ∈ xw_G := xw_c7 (List.mem_of_getElem? (i := 147) rfl) rfl
theorem wn_7_148 : (Jvm.Cond.code ({ cls := "CircuitCycles", name := "count", desc := "(I)I" } : Jvm.MethodName) prog_1_method_6_code (3 : Nat) (Option.some Jvm.ClassFile.FieldType.int)) ∈ xw_G := xw_c7 (List.mem_of_getElem? (i := 148) rfl) rfl
theorem wn_7_149 : (Jvm.Cond.classLink "CircuitCycles" (153 : Nat) "java/lang/IllegalStateException") ∈ xw_G := xw_c7 (List.mem_of_getElem? (i := 149) rfl) rfl
theorem wn_7_168 : (Jvm.Cond.methodLink "CircuitCyclesLaw" (27 : Nat) ({ cls := "CircuitCycles", name := "find", desc := "()I" } : Jvm.MethodName)) ∈ xw_G := xw_c7 (List.mem_of_getElem? (i := 168) rfl) rfl
theorem wn_7_169 : (Jvm.Cond.instanceMethod ({ cls := "CircuitCycles", name := "find", desc := "()I" } : Jvm.MethodName)) ∈ xw_G := xw_c7 (List.mem_of_getElem? (i := 169) rfl) rfl
theorem wn_7_170 : (Jvm.Cond.selects "CircuitCycles" ({ cls := "CircuitCycles", name := "find", desc := "()I" } : Jvm.MethodName) ({ cls := "CircuitCycles", name := "find", desc := "()I" } : Jvm.MethodName)) ∈ xw_G := xw_c7 (List.mem_of_getElem? (i := 170) rfl) rfl
theorem wn_7_171 : (Jvm.Cond.code ({ cls := "CircuitCycles", name := "find", desc := "()I" } : Jvm.MethodName) prog_1_method_7_code (2 : Nat) (Option.some Jvm.ClassFile.FieldType.int)) ∈ xw_G := xw_c7 (List.mem_of_getElem? (i := 171) rfl) rfl
theorem wn_7_194 : (Jvm.Cond.methodLink "CircuitCyclesLaw" (31 : Nat) ({ cls := "CircuitCycles", name := "signal", desc := "(II)I" } : Jvm.MethodName)) ∈ xw_G := xw_c7 (List.mem_of_getElem? (i := 194) rfl) rfl
theorem wn_7_195 : (Jvm.Cond.instanceMethod ({ cls := "CircuitCycles", name := "signal", desc := "(II)I" } : Jvm.MethodName)) ∈ xw_G := xw_c7 (List.mem_of_getElem? (i := 195) rfl) rfl
theorem wn_7_196 : (Jvm.Cond.selects "CircuitCycles" ({ cls := "CircuitCycles", name := "signal", desc := "(II)I" } : Jvm.MethodName) ({ cls := "CircuitCycles", name := "signal", desc := "(II)I" } : Jvm.MethodName)) ∈ xw_G := xw_c7 (List.mem_of_getElem? (i := 196) rfl) rfl
theorem wn_7_197 : (Jvm.Cond.code ({ cls := "CircuitCycles", name := "signal", desc := "(II)I" } : Jvm.MethodName) prog_1_method_8_code (3 : Nat) (Option.some Jvm.ClassFile.FieldType.int)) ∈ xw_G := xw_c7 (List.mem_of_getElem? (i := 197) rfl) rfl
theorem wn_7_224 : (Jvm.Cond.methodLink "CircuitCyclesLaw" (37 : Nat) ({ cls := "CircuitCycles", name := "reset", desc := "()V" } : Jvm.MethodName)) ∈ xw_G := xw_c7 (List.mem_of_getElem? (i := 224) rfl) rfl
theorem wn_7_225 : (Jvm.Cond.instanceMethod ({ cls := "CircuitCycles", name := "reset", desc := "()V" } : Jvm.MethodName)) ∈ xw_G := xw_c7 (List.mem_of_getElem? (i := 225) rfl) rfl
theorem wn_7_226 : (Jvm.Cond.selects "CircuitCycles" ({ cls := "CircuitCycles", name := "reset", desc := "()V" } : Jvm.MethodName) ({ cls := "CircuitCycles", name := "reset", desc := "()V" } : Jvm.MethodName)) ∈ xw_G := xw_c7 (List.mem_of_getElem? (i := 226) rfl) rfl
theorem wn_7_227 : (Jvm.Cond.code ({ cls := "CircuitCycles", name := "reset", desc := "()V" } : Jvm.MethodName) prog_1_method_9_code (1 : Nat) (Option.none : Option Jvm.ClassFile.FieldType)) ∈ xw_G := xw_c7 (List.mem_of_getElem? (i := 227) rfl) rfl
theorem wn_7_231 : (Jvm.Cond.methodLink "CircuitCyclesLaw" (40 : Nat) ({ cls := "CircuitCycles", name := "set", desc := "(II)V" } : Jvm.MethodName)) ∈ xw_G := xw_c7 (List.mem_of_getElem? (i := 231) rfl) rfl
theorem wn_7_232 : (Jvm.Cond.instanceMethod ({ cls := "CircuitCycles", name := "set", desc := "(II)V" } : Jvm.MethodName)) ∈ xw_G := xw_c7 (List.mem_of_getElem? (i := 232) rfl) rfl
theorem wn_7_233 : (Jvm.Cond.selects "CircuitCycles" ({ cls := "CircuitCycles", name := "set", desc := "(II)V" } : Jvm.MethodName) ({ cls := "CircuitCycles", name := "set", desc := "(II)V" } : Jvm.MethodName)) ∈ xw_G := xw_c7 (List.mem_of_getElem? (i := 233) rfl) rfl
theorem wn_7_234 : (Jvm.Cond.code ({ cls := "CircuitCycles", name := "set", desc := "(II)V" } : Jvm.MethodName) prog_1_method_10_code (3 : Nat) (Option.none : Option Jvm.ClassFile.FieldType)) ∈ xw_G := xw_c7 (List.mem_of_getElem? (i := 234) rfl) rfl
theorem wn_8_3 : (Jvm.Cond.methodLink "CircuitCyclesLaw" (44 : Nat) ({ cls := "CircuitCycles", name := "step", desc := "()I" } : Jvm.MethodName)) ∈ xw_G := xw_c8 (List.mem_of_getElem? (i := 3) rfl) rfl
theorem wn_8_4 : (Jvm.Cond.instanceMethod ({ cls := "CircuitCycles", name := "step", desc := "()I" } : Jvm.MethodName)) ∈ xw_G := xw_c8 (List.mem_of_getElem? (i := 4) rfl) rfl
theorem wn_8_5 : (Jvm.Cond.selects "CircuitCycles" ({ cls := "CircuitCycles", name := "step", desc := "()I" } : Jvm.MethodName) ({ cls := "CircuitCycles", name := "step", desc := "()I" } : Jvm.MethodName)) ∈ xw_G := xw_c8 (List.mem_of_getElem? (i := 5) rfl) rfl
theorem wn_8_6 : (Jvm.Cond.code ({ cls := "CircuitCycles", name := "step", desc := "()I" } : Jvm.MethodName) prog_1_method_11_code (1 : Nat) (Option.some Jvm.ClassFile.FieldType.int)) ∈ xw_G := xw_c8 (List.mem_of_getElem? (i := 6) rfl) rfl
theorem wn_8_63 : (Jvm.Cond.methodLink "CircuitCyclesLaw" (47 : Nat) ({ cls := "CircuitCycles", name := "value", desc := "(I)J" } : Jvm.MethodName)) ∈ xw_G := xw_c8 (List.mem_of_getElem? (i := 63) rfl) rfl
theorem wn_8_64 : (Jvm.Cond.instanceMethod ({ cls := "CircuitCycles", name := "value", desc := "(I)J" } : Jvm.MethodName)) ∈ xw_G := xw_c8 (List.mem_of_getElem? (i := 64) rfl) rfl
theorem wn_8_65 : (Jvm.Cond.selects "CircuitCycles" ({ cls := "CircuitCycles", name := "value", desc := "(I)J" } : Jvm.MethodName) ({ cls := "CircuitCycles", name := "value", desc := "(I)J" } : Jvm.MethodName)) ∈ xw_G := xw_c8 (List.mem_of_getElem? (i := 65) rfl) rfl
theorem wn_8_66 : (Jvm.Cond.code ({ cls := "CircuitCycles", name := "value", desc := "(I)J" } : Jvm.MethodName) prog_1_method_12_code (2 : Nat) (Option.some Jvm.ClassFile.FieldType.long)) ∈ xw_G := xw_c8 (List.mem_of_getElem? (i := 66) rfl) rfl
theorem wn_8_74 : (Jvm.Cond.methodLink "CircuitCyclesLaw" (51 : Nat) ({ cls := "CircuitCycles", name := "failing", desc := "()I" } : Jvm.MethodName)) ∈ xw_G := xw_c8 (List.mem_of_getElem? (i := 74) rfl) rfl
theorem wn_8_75 : (Jvm.Cond.instanceMethod ({ cls := "CircuitCycles", name := "failing", desc := "()I" } : Jvm.MethodName)) ∈ xw_G := xw_c8 (List.mem_of_getElem? (i := 75) rfl) rfl
theorem wn_8_76 : (Jvm.Cond.selects "CircuitCycles" ({ cls := "CircuitCycles", name := "failing", desc := "()I" } : Jvm.MethodName) ({ cls := "CircuitCycles", name := "failing", desc := "()I" } : Jvm.MethodName)) ∈ xw_G := xw_c8 (List.mem_of_getElem? (i := 76) rfl) rfl
theorem wn_8_77 : (Jvm.Cond.code ({ cls := "CircuitCycles", name := "failing", desc := "()I" } : Jvm.MethodName) prog_1_method_13_code (1 : Nat) (Option.some Jvm.ClassFile.FieldType.int)) ∈ xw_G := xw_c8 (List.mem_of_getElem? (i := 77) rfl) rfl
theorem wn_8_83 : (Jvm.Cond.instantiable "CircuitCyclesModel" (91 : Nat)) ∈ xw_G := xw_c8 (List.mem_of_getElem? (i := 83) rfl) rfl
theorem wn_8_87 : (Jvm.Cond.methodLink "CircuitCyclesModel" (1 : Nat) ({ cls := "java/lang/Object", name := "<init>", desc := "()V" } : Jvm.MethodName)) ∈ xw_G := xw_c8 (List.mem_of_getElem? (i := 87) rfl) rfl
theorem wn_8_88 : (Jvm.Cond.constant "CircuitCyclesModel" (7 : Nat) (65536 : Int32)) ∈ xw_G := xw_c8 (List.mem_of_getElem? (i := 88) rfl) rfl
theorem wn_8_89 : (Jvm.Cond.constant "CircuitCyclesModel" (14 : Nat) (65540 : Int32)) ∈ xw_G := xw_c8 (List.mem_of_getElem? (i := 89) rfl) rfl
theorem wn_8_90 : (Jvm.Cond.fieldLink "CircuitCyclesModel" (192 : Nat) "CircuitCyclesModel" "thrown" "I") ∈ xw_G := xw_c8 (List.mem_of_getElem? (i := 90) rfl) rfl
theorem wn_8_91 : (Jvm.Cond.fieldLink "CircuitCyclesModel" (8 : Nat) "CircuitCyclesModel" "tape" "[B") ∈ xw_G := xw_c8 (List.mem_of_getElem? (i := 91) rfl) rfl
theorem wn_8_92 : (Jvm.Cond.fieldLink "CircuitCyclesModel" (196 : Nat) "CircuitCyclesModel" "size" "I") ∈ xw_G := xw_c8 (List.mem_of_getElem? (i := 92) rfl) rfl
theorem wn_8_93 : (Jvm.Cond.fieldLink "CircuitCyclesModel" (542 : Nat) "CircuitCyclesModel" "fault" "I") ∈ xw_G := xw_c8 (List.mem_of_getElem? (i := 93) rfl) rfl
theorem wn_8_94 : (Jvm.Cond.fieldLink "CircuitCyclesModel" (15 : Nat) "CircuitCyclesModel" "kinds" "[I") ∈ xw_G := xw_c8 (List.mem_of_getElem? (i := 94) rfl) rfl
theorem wn_8_95 : (Jvm.Cond.fieldLink "CircuitCyclesModel" (19 : Nat) "CircuitCyclesModel" "begins" "[I") ∈ xw_G := xw_c8 (List.mem_of_getElem? (i := 95) rfl) rfl
theorem wn_8_96 : (Jvm.Cond.fieldLink "CircuitCyclesModel" (22 : Nat) "CircuitCyclesModel" "ends" "[I") ∈ xw_G := xw_c8 (List.mem_of_getElem? (i := 96) rfl) rfl
theorem wn_8_97 : (Jvm.Cond.fieldLink "CircuitCyclesModel" (231 : Nat) "CircuitCyclesModel" "tokens" "I") ∈ xw_G := xw_c8 (List.mem_of_getElem? (i := 97) rfl) rfl
theorem wn_8_98 : (Jvm.Cond.fieldLink "CircuitCyclesModel" (263 : Nat) "CircuitCyclesModel" "t" "I") ∈ xw_G := xw_c8 (List.mem_of_getElem? (i := 98) rfl) rfl
theorem wn_8_99 : (Jvm.Cond.fieldLink "CircuitCyclesModel" (257 : Nat) "CircuitCyclesModel" "wrong" "I") ∈ xw_G := xw_c8 (List.mem_of_getElem? (i := 99) rfl) rfl
theorem wn_8_100 : (Jvm.Cond.fieldLink "CircuitCyclesModel" (260 : Nat) "CircuitCyclesModel" "wrongAt" "I") ∈ xw_G := xw_c8 (List.mem_of_getElem? (i := 100) rfl) rfl
theorem wn_8_101 : (Jvm.Cond.fieldLink "CircuitCyclesModel" (276 : Nat) "CircuitCyclesModel" "deep" "I") ∈ xw_G := xw_c8 (List.mem_of_getElem? (i := 101) rfl) rfl
theorem wn_8_103 : (Jvm.Cond.fieldLink "CircuitCyclesModel" (25 : Nat) "CircuitCyclesModel" "moduleName" "[I") ∈ xw_G := xw_c8 (List.mem_of_getElem? (i := 103) rfl) rfl
theorem wn_8_104 : (Jvm.Cond.fieldLink "CircuitCyclesModel" (28 : Nat) "CircuitCyclesModel" "firstSignal" "[I") ∈ xw_G := xw_c8 (List.mem_of_getElem? (i := 104) rfl) rfl
theorem wn_8_105 : (Jvm.Cond.fieldLink "CircuitCyclesModel" (31 : Nat) "CircuitCyclesModel" "firstInstance" "[I") ∈ xw_G := xw_c8 (List.mem_of_getElem? (i := 105) rfl) rfl
theorem wn_8_106 : (Jvm.Cond.fieldLink "CircuitCyclesModel" (34 : Nat) "CircuitCyclesModel" "firstAssert" "[I") ∈ xw_G := xw_c8 (List.mem_of_getElem? (i := 106) rfl) rfl
theorem wn_8_107 : (Jvm.Cond.fieldLink "CircuitCyclesModel" (37 : Nat) "CircuitCyclesModel" "firstAlways" "[I") ∈ xw_G := xw_c8 (List.mem_of_getElem? (i := 107) rfl) rfl
theorem wn_8_109 : (Jvm.Cond.fieldLink "CircuitCyclesModel" (40 : Nat) "CircuitCyclesModel" "localName" "[I") ∈ xw_G := xw_c8 (List.mem_of_getElem? (i := 109) rfl) rfl
theorem wn_8_110 : (Jvm.Cond.fieldLink "CircuitCyclesModel" (43 : Nat) "CircuitCyclesModel" "localWidth" "[I") ∈ xw_G := xw_c8 (List.mem_of_getElem? (i := 110) rfl) rfl
theorem wn_8_111 : (Jvm.Cond.fieldLink "CircuitCyclesModel" (46 : Nat) "CircuitCyclesModel" "localKind" "[I") ∈ xw_G := xw_c8 (List.mem_of_getElem? (i := 111) rfl) rfl
theorem wn_8_112 : (Jvm.Cond.fieldLink "CircuitCyclesModel" (49 : Nat) "CircuitCyclesModel" "localFirst" "[J") ∈ xw_G := xw_c8 (List.mem_of_getElem? (i := 112) rfl) rfl
theorem wn_8_113 : (Jvm.Cond.fieldLink "CircuitCyclesModel" (53 : Nat) "CircuitCyclesModel" "driverKind" "[I") ∈ xw_G := xw_c8 (List.mem_of_getElem? (i := 113) rfl) rfl
theorem wn_8_114 : (Jvm.Cond.fieldLink "CircuitCyclesModel" (56 : Nat) "CircuitCyclesModel" "driverFrom" "[I") ∈ xw_G := xw_c8 (List.mem_of_getElem? (i := 114) rfl) rfl
theorem wn_8_115 : (Jvm.Cond.fieldLink "CircuitCyclesModel" (59 : Nat) "CircuitCyclesModel" "driverTo" "[I") ∈ xw_G := xw_c8 (List.mem_of_getElem? (i := 115) rfl) rfl
theorem wn_8_116 : (Jvm.Cond.fieldLink "CircuitCyclesModel" (62 : Nat) "CircuitCyclesModel" "setIn" "[I") ∈ xw_G := xw_c8 (List.mem_of_getElem? (i := 116) rfl) rfl
theorem wn_8_118 : (Jvm.Cond.fieldLink "CircuitCyclesModel" (65 : Nat) "CircuitCyclesModel" "itemModule" "[I") ∈ xw_G := xw_c8 (List.mem_of_getElem? (i := 118) rfl) rfl
theorem wn_8_119 : (Jvm.Cond.fieldLink "CircuitCyclesModel" (68 : Nat) "CircuitCyclesModel" "itemName" "[I") ∈ xw_G := xw_c8 (List.mem_of_getElem? (i := 119) rfl) rfl
theorem wn_8_120 : (Jvm.Cond.fieldLink "CircuitCyclesModel" (71 : Nat) "CircuitCyclesModel" "firstLink" "[I") ∈ xw_G := xw_c8 (List.mem_of_getElem? (i := 120) rfl) rfl
theorem wn_8_122 : (Jvm.Cond.fieldLink "CircuitCyclesModel" (74 : Nat) "CircuitCyclesModel" "linkPort" "[I") ∈ xw_G := xw_c8 (List.mem_of_getElem? (i := 122) rfl) rfl
theorem wn_8_123 : (Jvm.Cond.fieldLink "CircuitCyclesModel" (77 : Nat) "CircuitCyclesModel" "linkFrom" "[I") ∈ xw_G := xw_c8 (List.mem_of_getElem? (i := 123) rfl) rfl
theorem wn_8_124 : (Jvm.Cond.fieldLink "CircuitCyclesModel" (80 : Nat) "CircuitCyclesModel" "linkTo" "[I") ∈ xw_G := xw_c8 (List.mem_of_getElem? (i := 124) rfl) rfl
theorem wn_8_126 : (Jvm.Cond.fieldLink "CircuitCyclesModel" (83 : Nat) "CircuitCyclesModel" "assertFrom" "[I") ∈ xw_G := xw_c8 (List.mem_of_getElem? (i := 126) rfl) rfl
theorem wn_8_127 : (Jvm.Cond.fieldLink "CircuitCyclesModel" (86 : Nat) "CircuitCyclesModel" "assertTo" "[I") ∈ xw_G := xw_c8 (List.mem_of_getElem? (i := 127) rfl) rfl
theorem wn_8_129 : (Jvm.Cond.fieldLink "CircuitCyclesModel" (89 : Nat) "CircuitCyclesModel" "alwaysFrom" "[I") ∈ xw_G := xw_c8 (List.mem_of_getElem? (i := 129) rfl) rfl
theorem wn_8_130 : (Jvm.Cond.fieldLink "CircuitCyclesModel" (92 : Nat) "CircuitCyclesModel" "alwaysTo" "[I") ∈ xw_G := xw_c8 (List.mem_of_getElem? (i := 130) rfl) rfl
theorem wn_8_131 : (Jvm.Cond.fieldLink "CircuitCyclesModel" (95 : Nat) "CircuitCyclesModel" "code" "[I") ∈ xw_G := xw_c8 (List.mem_of_getElem? (i := 131) rfl) rfl
theorem wn_8_133 : (Jvm.Cond.fieldLink "CircuitCyclesModel" (98 : Nat) "CircuitCyclesModel" "numbers" "[J") ∈ xw_G := xw_c8 (List.mem_of_getElem? (i := 133) rfl) rfl
theorem wn_8_135 : (Jvm.Cond.fieldLink "CircuitCyclesModel" (101 : Nat) "CircuitCyclesModel" "moduleCost" "[J") ∈ xw_G := xw_c8 (List.mem_of_getElem? (i := 135) rfl) rfl
theorem wn_8_136 : (Jvm.Cond.fieldLink "CircuitCyclesModel" (104 : Nat) "CircuitCyclesModel" "moduleInstances" "[J") ∈ xw_G := xw_c8 (List.mem_of_getElem? (i := 136) rfl) rfl
theorem wn_8_137 : (Jvm.Cond.fieldLink "CircuitCyclesModel" (107 : Nat) "CircuitCyclesModel" "moduleSignals" "[J") ∈ xw_G := xw_c8 (List.mem_of_getElem? (i := 137) rfl) rfl
theorem wn_8_138 : (Jvm.Cond.fieldLink "CircuitCyclesModel" (110 : Nat) "CircuitCyclesModel" "moduleBits" "[J") ∈ xw_G := xw_c8 (List.mem_of_getElem? (i := 138) rfl) rfl
theorem wn_8_139 : (Jvm.Cond.fieldLink "CircuitCyclesModel" (113 : Nat) "CircuitCyclesModel" "waitOp" "[I") ∈ xw_G := xw_c8 (List.mem_of_getElem? (i := 139) rfl) rfl
theorem wn_8_140 : (Jvm.Cond.fieldLink "CircuitCyclesModel" (116 : Nat) "CircuitCyclesModel" "waitAt" "[I") ∈ xw_G := xw_c8 (List.mem_of_getElem? (i := 140) rfl) rfl
theorem wn_8_142 : (Jvm.Cond.fieldLink "CircuitCyclesModel" (119 : Nat) "CircuitCyclesModel" "widths" "[I") ∈ xw_G := xw_c8 (List.mem_of_getElem? (i := 142) rfl) rfl
theorem wn_8_144 : (Jvm.Cond.fieldLink "CircuitCyclesModel" (545 : Nat) "CircuitCyclesModel" "there" "Z") ∈ xw_G := xw_c8 (List.mem_of_getElem? (i := 144) rfl) rfl
theorem wn_8_145 : (Jvm.Cond.fieldLink "CircuitCyclesModel" (122 : Nat) "CircuitCyclesModel" "text" "[B") ∈ xw_G := xw_c8 (List.mem_of_getElem? (i := 145) rfl) rfl
theorem wn_8_147 : (Jvm.Cond.fieldLink "CircuitCyclesModel" (125 : Nat) "CircuitCyclesModel" "instanceModule" "[I") ∈ xw_G := xw_c8 (List.mem_of_getElem? (i := 147) rfl) rfl
theorem wn_8_148 : (Jvm.Cond.fieldLink "CircuitCyclesModel" (128 : Nat) "CircuitCyclesModel" "instanceBase" "[I") ∈ xw_G := xw_c8 (List.mem_of_getElem? (i := 148) rfl) rfl
theorem wn_8_149 : (Jvm.Cond.fieldLink "CircuitCyclesModel" (131 : Nat) "CircuitCyclesModel" "instanceUp" "[I") ∈ xw_G := xw_c8 (List.mem_of_getElem? (i := 149) rfl) rfl
theorem wn_8_150 : (Jvm.Cond.fieldLink "CircuitCyclesModel" (134 : Nat) "CircuitCyclesModel" "instanceItem" "[I") ∈ xw_G := xw_c8 (List.mem_of_getElem? (i := 150) rfl) rfl
theorem wn_8_151 : (Jvm.Cond.fieldLink "CircuitCyclesModel" (137 : Nat) "CircuitCyclesModel" "stack" "[I") ∈ xw_G := xw_c8 (List.mem_of_getElem? (i := 151) rfl) rfl
theorem wn_8_152 : (Jvm.Cond.fieldLink "CircuitCyclesModel" (140 : Nat) "CircuitCyclesModel" "stackNext" "[I") ∈ xw_G := xw_c8 (List.mem_of_getElem? (i := 152) rfl) rfl
theorem wn_8_154 : (Jvm.Cond.fieldLink "CircuitCyclesModel" (143 : Nat) "CircuitCyclesModel" "signalLocal" "[I") ∈ xw_G := xw_c8 (List.mem_of_getElem? (i := 154) rfl) rfl
theorem wn_8_155 : (Jvm.Cond.fieldLink "CircuitCyclesModel" (146 : Nat) "CircuitCyclesModel" "signalInstance" "[I") ∈ xw_G := xw_c8 (List.mem_of_getElem? (i := 155) rfl) rfl
theorem wn_8_156 : (Jvm.Cond.fieldLink "CircuitCyclesModel" (149 : Nat) "CircuitCyclesModel" "ruleKind" "[I") ∈ xw_G := xw_c8 (List.mem_of_getElem? (i := 156) rfl) rfl
theorem wn_8_157 : (Jvm.Cond.fieldLink "CircuitCyclesModel" (152 : Nat) "CircuitCyclesModel" "ruleFrom" "[I") ∈ xw_G := xw_c8 (List.mem_of_getElem? (i := 157) rfl) rfl
theorem wn_8_158 : (Jvm.Cond.fieldLink "CircuitCyclesModel" (155 : Nat) "CircuitCyclesModel" "ruleTo" "[I") ∈ xw_G := xw_c8 (List.mem_of_getElem? (i := 158) rfl) rfl
theorem wn_8_159 : (Jvm.Cond.fieldLink "CircuitCyclesModel" (158 : Nat) "CircuitCyclesModel" "ruleFor" "[I") ∈ xw_G := xw_c8 (List.mem_of_getElem? (i := 159) rfl) rfl
theorem wn_8_160 : (Jvm.Cond.fieldLink "CircuitCyclesModel" (161 : Nat) "CircuitCyclesModel" "order" "[I") ∈ xw_G := xw_c8 (List.mem_of_getElem? (i := 160) rfl) rfl
theorem wn_8_162 : (Jvm.Cond.fieldLink "CircuitCyclesModel" (164 : Nat) "CircuitCyclesModel" "ready" "[Z") ∈ xw_G := xw_c8 (List.mem_of_getElem? (i := 162) rfl) rfl
theorem wn_8_163 : (Jvm.Cond.fieldLink "CircuitCyclesModel" (168 : Nat) "CircuitCyclesModel" "met" "[Z") ∈ xw_G := xw_c8 (List.mem_of_getElem? (i := 163) rfl) rfl
theorem wn_8_164 : (Jvm.Cond.fieldLink "CircuitCyclesModel" (171 : Nat) "CircuitCyclesModel" "queue" "[I") ∈ xw_G := xw_c8 (List.mem_of_getElem? (i := 164) rfl) rfl
theorem wn_8_170 : (Jvm.Cond.fieldLink "CircuitCyclesModel" (174 : Nat) "CircuitCyclesModel" "values" "[J") ∈ xw_G := xw_c8 (List.mem_of_getElem? (i := 170) rfl) rfl
theorem wn_8_171 : (Jvm.Cond.fieldLink "CircuitCyclesModel" (177 : Nat) "CircuitCyclesModel" "nexts" "[J") ∈ xw_G := xw_c8 (List.mem_of_getElem? (i := 171) rfl) rfl
theorem wn_8_172 : (Jvm.Cond.fieldLink "CircuitCyclesModel" (180 : Nat) "CircuitCyclesModel" "registers" "[J") ∈ xw_G := xw_c8 (List.mem_of_getElem? (i := 172) rfl) rfl
theorem wn_8_173 : (Jvm.Cond.fieldLink "CircuitCyclesModel" (183 : Nat) "CircuitCyclesModel" "inputs" "[J") ∈ xw_G := xw_c8 (List.mem_of_getElem? (i := 173) rfl) rfl
theorem wn_8_174 : (Jvm.Cond.fieldLink "CircuitCyclesModel" (186 : Nat) "CircuitCyclesModel" "pile" "[J") ∈ xw_G := xw_c8 (List.mem_of_getElem? (i := 174) rfl) rfl
theorem wn_8_178 : (Jvm.Cond.fieldLink "CircuitCyclesModel" (536 : Nat) "CircuitCyclesModel" "tapeSize" "I") ∈ xw_G := xw_c8 (List.mem_of_getElem? (i := 178) rfl) rfl
theorem wn_8_180 : (Jvm.Cond.fieldLink "CircuitCyclesModel" (189 : Nat) "CircuitCyclesModel" "src" "[B") ∈ xw_G := xw_c8 (List.mem_of_getElem? (i := 180) rfl) rfl
theorem wn_8_181 : (Jvm.Cond.lays "CircuitCyclesModel" "CircuitCyclesModel" "thrown" "I") ∈ xw_G := xw_c8 (List.mem_of_getElem? (i := 181) rfl) rfl
theorem wn_8_183 : (Jvm.Cond.laysFinal "CircuitCyclesModel" "CircuitCyclesModel" "tape" "[B") ∈ xw_G := xw_c8 (List.mem_of_getElem? (i := 183) rfl) rfl
theorem wn_8_185 : (Jvm.Cond.lays "CircuitCyclesModel" "CircuitCyclesModel" "size" "I") ∈ xw_G := xw_c8 (List.mem_of_getElem? (i := 185) rfl) rfl
theorem wn_8_187 : (Jvm.Cond.lays "CircuitCyclesModel" "CircuitCyclesModel" "fault" "I") ∈ xw_G := xw_c8 (List.mem_of_getElem? (i := 187) rfl) rfl
theorem wn_8_189 : (Jvm.Cond.laysFinal "CircuitCyclesModel" "CircuitCyclesModel" "kinds" "[I") ∈ xw_G := xw_c8 (List.mem_of_getElem? (i := 189) rfl) rfl
theorem wn_8_191 : (Jvm.Cond.laysFinal "CircuitCyclesModel" "CircuitCyclesModel" "begins" "[I") ∈ xw_G := xw_c8 (List.mem_of_getElem? (i := 191) rfl) rfl
theorem wn_8_193 : (Jvm.Cond.laysFinal "CircuitCyclesModel" "CircuitCyclesModel" "ends" "[I") ∈ xw_G := xw_c8 (List.mem_of_getElem? (i := 193) rfl) rfl
theorem wn_8_195 : (Jvm.Cond.lays "CircuitCyclesModel" "CircuitCyclesModel" "tokens" "I") ∈ xw_G := xw_c8 (List.mem_of_getElem? (i := 195) rfl) rfl
theorem wn_8_197 : (Jvm.Cond.lays "CircuitCyclesModel" "CircuitCyclesModel" "t" "I") ∈ xw_G := xw_c8 (List.mem_of_getElem? (i := 197) rfl) rfl
theorem wn_8_199 : (Jvm.Cond.lays "CircuitCyclesModel" "CircuitCyclesModel" "wrong" "I") ∈ xw_G := xw_c8 (List.mem_of_getElem? (i := 199) rfl) rfl
theorem wn_8_201 : (Jvm.Cond.lays "CircuitCyclesModel" "CircuitCyclesModel" "wrongAt" "I") ∈ xw_G := xw_c8 (List.mem_of_getElem? (i := 201) rfl) rfl
theorem wn_8_203 : (Jvm.Cond.lays "CircuitCyclesModel" "CircuitCyclesModel" "deep" "I") ∈ xw_G := xw_c8 (List.mem_of_getElem? (i := 203) rfl) rfl
theorem wn_8_205 : (Jvm.Cond.lays "CircuitCyclesModel" "CircuitCyclesModel" "modules" "I") ∈ xw_G := xw_c8 (List.mem_of_getElem? (i := 205) rfl) rfl
theorem wn_8_207 : (Jvm.Cond.laysFinal "CircuitCyclesModel" "CircuitCyclesModel" "moduleName" "[I") ∈ xw_G := xw_c8 (List.mem_of_getElem? (i := 207) rfl) rfl
theorem wn_8_209 : (Jvm.Cond.laysFinal "CircuitCyclesModel" "CircuitCyclesModel" "firstSignal" "[I") ∈ xw_G := xw_c8 (List.mem_of_getElem? (i := 209) rfl) rfl
theorem wn_8_211 : (Jvm.Cond.laysFinal "CircuitCyclesModel" "CircuitCyclesModel" "firstInstance" "[I") ∈ xw_G := xw_c8 (List.mem_of_getElem? (i := 211) rfl) rfl
theorem wn_8_213 : (Jvm.Cond.laysFinal "CircuitCyclesModel" "CircuitCyclesModel" "firstAssert" "[I") ∈ xw_G := xw_c8 (List.mem_of_getElem? (i := 213) rfl) rfl
theorem wn_8_215 : (Jvm.Cond.laysFinal "CircuitCyclesModel" "CircuitCyclesModel" "firstAlways" "[I") ∈ xw_G := xw_c8 (List.mem_of_getElem? (i := 215) rfl) rfl
theorem wn_8_217 : (Jvm.Cond.lays "CircuitCyclesModel" "CircuitCyclesModel" "locals" "I") ∈ xw_G := xw_c8 (List.mem_of_getElem? (i := 217) rfl) rfl
theorem wn_8_219 : (Jvm.Cond.laysFinal "CircuitCyclesModel" "CircuitCyclesModel" "localName" "[I") ∈ xw_G := xw_c8 (List.mem_of_getElem? (i := 219) rfl) rfl
theorem wn_8_221 : (Jvm.Cond.laysFinal "CircuitCyclesModel" "CircuitCyclesModel" "localWidth" "[I") ∈ xw_G := xw_c8 (List.mem_of_getElem? (i := 221) rfl) rfl
theorem wn_8_223 : (Jvm.Cond.laysFinal "CircuitCyclesModel" "CircuitCyclesModel" "localKind" "[I") ∈ xw_G := xw_c8 (List.mem_of_getElem? (i := 223) rfl) rfl
theorem wn_8_225 : (Jvm.Cond.laysFinal "CircuitCyclesModel" "CircuitCyclesModel" "localFirst" "[J") ∈ xw_G := xw_c8 (List.mem_of_getElem? (i := 225) rfl) rfl
theorem wn_8_227 : (Jvm.Cond.laysFinal "CircuitCyclesModel" "CircuitCyclesModel" "driverKind" "[I") ∈ xw_G := xw_c8 (List.mem_of_getElem? (i := 227) rfl) rfl
theorem wn_8_229 : (Jvm.Cond.laysFinal "CircuitCyclesModel" "CircuitCyclesModel" "driverFrom" "[I") ∈ xw_G := xw_c8 (List.mem_of_getElem? (i := 229) rfl) rfl
theorem wn_8_231 : (Jvm.Cond.laysFinal "CircuitCyclesModel" "CircuitCyclesModel" "driverTo" "[I") ∈ xw_G := xw_c8 (List.mem_of_getElem? (i := 231) rfl) rfl
theorem wn_8_233 : (Jvm.Cond.laysFinal "CircuitCyclesModel" "CircuitCyclesModel" "setIn" "[I") ∈ xw_G := xw_c8 (List.mem_of_getElem? (i := 233) rfl) rfl
theorem wn_8_235 : (Jvm.Cond.lays "CircuitCyclesModel" "CircuitCyclesModel" "items" "I") ∈ xw_G := xw_c8 (List.mem_of_getElem? (i := 235) rfl) rfl
theorem wn_8_237 : (Jvm.Cond.laysFinal "CircuitCyclesModel" "CircuitCyclesModel" "itemModule" "[I") ∈ xw_G := xw_c8 (List.mem_of_getElem? (i := 237) rfl) rfl
theorem wn_8_239 : (Jvm.Cond.laysFinal "CircuitCyclesModel" "CircuitCyclesModel" "itemName" "[I") ∈ xw_G := xw_c8 (List.mem_of_getElem? (i := 239) rfl) rfl
theorem wn_9_1 : (Jvm.Cond.laysFinal "CircuitCyclesModel" "CircuitCyclesModel" "firstLink" "[I") ∈ xw_G := xw_c9 (List.mem_of_getElem? (i := 1) rfl) rfl
theorem wn_9_3 : (Jvm.Cond.lays "CircuitCyclesModel" "CircuitCyclesModel" "links" "I") ∈ xw_G := xw_c9 (List.mem_of_getElem? (i := 3) rfl) rfl
theorem wn_9_5 : (Jvm.Cond.laysFinal "CircuitCyclesModel" "CircuitCyclesModel" "linkPort" "[I") ∈ xw_G := xw_c9 (List.mem_of_getElem? (i := 5) rfl) rfl
theorem wn_9_7 : (Jvm.Cond.laysFinal "CircuitCyclesModel" "CircuitCyclesModel" "linkFrom" "[I") ∈ xw_G := xw_c9 (List.mem_of_getElem? (i := 7) rfl) rfl
theorem wn_9_9 : (Jvm.Cond.laysFinal "CircuitCyclesModel" "CircuitCyclesModel" "linkTo" "[I") ∈ xw_G := xw_c9 (List.mem_of_getElem? (i := 9) rfl) rfl
theorem wn_9_11 : (Jvm.Cond.lays "CircuitCyclesModel" "CircuitCyclesModel" "asserts" "I") ∈ xw_G := xw_c9 (List.mem_of_getElem? (i := 11) rfl) rfl
theorem wn_9_13 : (Jvm.Cond.laysFinal "CircuitCyclesModel" "CircuitCyclesModel" "assertFrom" "[I") ∈ xw_G := xw_c9 (List.mem_of_getElem? (i := 13) rfl) rfl
theorem wn_9_15 : (Jvm.Cond.laysFinal "CircuitCyclesModel" "CircuitCyclesModel" "assertTo" "[I") ∈ xw_G := xw_c9 (List.mem_of_getElem? (i := 15) rfl) rfl
theorem wn_9_17 : (Jvm.Cond.lays "CircuitCyclesModel" "CircuitCyclesModel" "always" "I") ∈ xw_G := xw_c9 (List.mem_of_getElem? (i := 17) rfl) rfl
theorem wn_9_19 : (Jvm.Cond.laysFinal "CircuitCyclesModel" "CircuitCyclesModel" "alwaysFrom" "[I") ∈ xw_G := xw_c9 (List.mem_of_getElem? (i := 19) rfl) rfl
theorem wn_9_21 : (Jvm.Cond.laysFinal "CircuitCyclesModel" "CircuitCyclesModel" "alwaysTo" "[I") ∈ xw_G := xw_c9 (List.mem_of_getElem? (i := 21) rfl) rfl
theorem wn_9_23 : (Jvm.Cond.lays "CircuitCyclesModel" "CircuitCyclesModel" "code" "[I") ∈ xw_G := xw_c9 (List.mem_of_getElem? (i := 23) rfl) rfl
theorem wn_9_25 : (Jvm.Cond.lays "CircuitCyclesModel" "CircuitCyclesModel" "laid" "I") ∈ xw_G := xw_c9 (List.mem_of_getElem? (i := 25) rfl) rfl
theorem wn_9_27 : (Jvm.Cond.lays "CircuitCyclesModel" "CircuitCyclesModel" "numbers" "[J") ∈ xw_G := xw_c9 (List.mem_of_getElem? (i := 27) rfl) rfl
theorem wn_9_29 : (Jvm.Cond.lays "CircuitCyclesModel" "CircuitCyclesModel" "numberCount" "I") ∈ xw_G := xw_c9 (List.mem_of_getElem? (i := 29) rfl) rfl
theorem wn_9_31 : (Jvm.Cond.laysFinal "CircuitCyclesModel" "CircuitCyclesModel" "moduleCost" "[J") ∈ xw_G := xw_c9 (List.mem_of_getElem? (i := 31) rfl) rfl
theorem wn_9_33 : (Jvm.Cond.laysFinal "CircuitCyclesModel" "CircuitCyclesModel" "moduleInstances" "[J") ∈ xw_G := xw_c9 (List.mem_of_getElem? (i := 33) rfl) rfl
theorem wn_9_35 : (Jvm.Cond.laysFinal "CircuitCyclesModel" "CircuitCyclesModel" "moduleSignals" "[J") ∈ xw_G := xw_c9 (List.mem_of_getElem? (i := 35) rfl) rfl
theorem wn_9_37 : (Jvm.Cond.laysFinal "CircuitCyclesModel" "CircuitCyclesModel" "moduleBits" "[J") ∈ xw_G := xw_c9 (List.mem_of_getElem? (i := 37) rfl) rfl
theorem wn_9_39 : (Jvm.Cond.laysFinal "CircuitCyclesModel" "CircuitCyclesModel" "waitOp" "[I") ∈ xw_G := xw_c9 (List.mem_of_getElem? (i := 39) rfl) rfl
theorem wn_9_41 : (Jvm.Cond.laysFinal "CircuitCyclesModel" "CircuitCyclesModel" "waitAt" "[I") ∈ xw_G := xw_c9 (List.mem_of_getElem? (i := 41) rfl) rfl
theorem wn_9_43 : (Jvm.Cond.lays "CircuitCyclesModel" "CircuitCyclesModel" "waits" "I") ∈ xw_G := xw_c9 (List.mem_of_getElem? (i := 43) rfl) rfl
theorem wn_9_45 : (Jvm.Cond.laysFinal "CircuitCyclesModel" "CircuitCyclesModel" "widths" "[I") ∈ xw_G := xw_c9 (List.mem_of_getElem? (i := 45) rfl) rfl
theorem wn_9_47 : (Jvm.Cond.lays "CircuitCyclesModel" "CircuitCyclesModel" "widthCount" "I") ∈ xw_G := xw_c9 (List.mem_of_getElem? (i := 47) rfl) rfl
theorem wn_9_49 : (Jvm.Cond.lays "CircuitCyclesModel" "CircuitCyclesModel" "there" "Z") ∈ xw_G := xw_c9 (List.mem_of_getElem? (i := 49) rfl) rfl
theorem wn_9_51 : (Jvm.Cond.laysFinal "CircuitCyclesModel" "CircuitCyclesModel" "text" "[B") ∈ xw_G := xw_c9 (List.mem_of_getElem? (i := 51) rfl) rfl
theorem wn_9_53 : (Jvm.Cond.lays "CircuitCyclesModel" "CircuitCyclesModel" "instances" "I") ∈ xw_G := xw_c9 (List.mem_of_getElem? (i := 53) rfl) rfl
theorem wn_9_55 : (Jvm.Cond.laysFinal "CircuitCyclesModel" "CircuitCyclesModel" "instanceModule" "[I") ∈ xw_G := xw_c9 (List.mem_of_getElem? (i := 55) rfl) rfl
theorem wn_9_57 : (Jvm.Cond.laysFinal "CircuitCyclesModel" "CircuitCyclesModel" "instanceBase" "[I") ∈ xw_G := xw_c9 (List.mem_of_getElem? (i := 57) rfl) rfl
theorem wn_9_59 : (Jvm.Cond.laysFinal "CircuitCyclesModel" "CircuitCyclesModel" "instanceUp" "[I") ∈ xw_G := xw_c9 (List.mem_of_getElem? (i := 59) rfl) rfl
theorem wn_9_61 : (Jvm.Cond.laysFinal "CircuitCyclesModel" "CircuitCyclesModel" "instanceItem" "[I") ∈ xw_G := xw_c9 (List.mem_of_getElem? (i := 61) rfl) rfl
theorem wn_9_63 : (Jvm.Cond.laysFinal "CircuitCyclesModel" "CircuitCyclesModel" "stack" "[I") ∈ xw_G := xw_c9 (List.mem_of_getElem? (i := 63) rfl) rfl
theorem wn_9_65 : (Jvm.Cond.laysFinal "CircuitCyclesModel" "CircuitCyclesModel" "stackNext" "[I") ∈ xw_G := xw_c9 (List.mem_of_getElem? (i := 65) rfl) rfl
theorem wn_9_67 : (Jvm.Cond.lays "CircuitCyclesModel" "CircuitCyclesModel" "signals" "I") ∈ xw_G := xw_c9 (List.mem_of_getElem? (i := 67) rfl) rfl
theorem wn_9_69 : (Jvm.Cond.laysFinal "CircuitCyclesModel" "CircuitCyclesModel" "signalLocal" "[I") ∈ xw_G := xw_c9 (List.mem_of_getElem? (i := 69) rfl) rfl
theorem wn_9_71 : (Jvm.Cond.laysFinal "CircuitCyclesModel" "CircuitCyclesModel" "signalInstance" "[I") ∈ xw_G := xw_c9 (List.mem_of_getElem? (i := 71) rfl) rfl
theorem wn_9_73 : (Jvm.Cond.laysFinal "CircuitCyclesModel" "CircuitCyclesModel" "ruleKind" "[I") ∈ xw_G := xw_c9 (List.mem_of_getElem? (i := 73) rfl) rfl
theorem wn_9_75 : (Jvm.Cond.laysFinal "CircuitCyclesModel" "CircuitCyclesModel" "ruleFrom" "[I") ∈ xw_G := xw_c9 (List.mem_of_getElem? (i := 75) rfl) rfl
theorem wn_9_77 : (Jvm.Cond.laysFinal "CircuitCyclesModel" "CircuitCyclesModel" "ruleTo" "[I") ∈ xw_G := xw_c9 (List.mem_of_getElem? (i := 77) rfl) rfl
theorem wn_9_79 : (Jvm.Cond.laysFinal "CircuitCyclesModel" "CircuitCyclesModel" "ruleFor" "[I") ∈ xw_G := xw_c9 (List.mem_of_getElem? (i := 79) rfl) rfl
theorem wn_9_81 : (Jvm.Cond.laysFinal "CircuitCyclesModel" "CircuitCyclesModel" "order" "[I") ∈ xw_G := xw_c9 (List.mem_of_getElem? (i := 81) rfl) rfl
theorem wn_9_83 : (Jvm.Cond.lays "CircuitCyclesModel" "CircuitCyclesModel" "ordered" "I") ∈ xw_G := xw_c9 (List.mem_of_getElem? (i := 83) rfl) rfl
theorem wn_9_85 : (Jvm.Cond.laysFinal "CircuitCyclesModel" "CircuitCyclesModel" "ready" "[Z") ∈ xw_G := xw_c9 (List.mem_of_getElem? (i := 85) rfl) rfl
theorem wn_9_87 : (Jvm.Cond.laysFinal "CircuitCyclesModel" "CircuitCyclesModel" "met" "[Z") ∈ xw_G := xw_c9 (List.mem_of_getElem? (i := 87) rfl) rfl
theorem wn_9_89 : (Jvm.Cond.laysFinal "CircuitCyclesModel" "CircuitCyclesModel" "queue" "[I") ∈ xw_G := xw_c9 (List.mem_of_getElem? (i := 89) rfl) rfl
theorem wn_9_91 : (Jvm.Cond.lays "CircuitCyclesModel" "CircuitCyclesModel" "modulesThere" "I") ∈ xw_G := xw_c9 (List.mem_of_getElem? (i := 91) rfl) rfl
theorem wn_9_93 : (Jvm.Cond.lays "CircuitCyclesModel" "CircuitCyclesModel" "registerBits" "I") ∈ xw_G := xw_c9 (List.mem_of_getElem? (i := 93) rfl) rfl
theorem wn_9_95 : (Jvm.Cond.lays "CircuitCyclesModel" "CircuitCyclesModel" "inputBits" "I") ∈ xw_G := xw_c9 (List.mem_of_getElem? (i := 95) rfl) rfl
theorem wn_9_97 : (Jvm.Cond.lays "CircuitCyclesModel" "CircuitCyclesModel" "assertsThere" "I") ∈ xw_G := xw_c9 (List.mem_of_getElem? (i := 97) rfl) rfl
theorem wn_9_99 : (Jvm.Cond.lays "CircuitCyclesModel" "CircuitCyclesModel" "costThere" "J") ∈ xw_G := xw_c9 (List.mem_of_getElem? (i := 99) rfl) rfl
theorem wn_9_101 : (Jvm.Cond.laysFinal "CircuitCyclesModel" "CircuitCyclesModel" "values" "[J") ∈ xw_G := xw_c9 (List.mem_of_getElem? (i := 101) rfl) rfl
theorem wn_9_103 : (Jvm.Cond.laysFinal "CircuitCyclesModel" "CircuitCyclesModel" "nexts" "[J") ∈ xw_G := xw_c9 (List.mem_of_getElem? (i := 103) rfl) rfl
theorem wn_9_105 : (Jvm.Cond.laysFinal "CircuitCyclesModel" "CircuitCyclesModel" "registers" "[J") ∈ xw_G := xw_c9 (List.mem_of_getElem? (i := 105) rfl) rfl
theorem wn_9_107 : (Jvm.Cond.laysFinal "CircuitCyclesModel" "CircuitCyclesModel" "inputs" "[J") ∈ xw_G := xw_c9 (List.mem_of_getElem? (i := 107) rfl) rfl
theorem wn_9_109 : (Jvm.Cond.laysFinal "CircuitCyclesModel" "CircuitCyclesModel" "pile" "[J") ∈ xw_G := xw_c9 (List.mem_of_getElem? (i := 109) rfl) rfl
theorem wn_9_111 : (Jvm.Cond.lays "CircuitCyclesModel" "CircuitCyclesModel" "high" "I") ∈ xw_G := xw_c9 (List.mem_of_getElem? (i := 111) rfl) rfl
theorem wn_9_113 : (Jvm.Cond.lays "CircuitCyclesModel" "CircuitCyclesModel" "cycle" "I") ∈ xw_G := xw_c9 (List.mem_of_getElem? (i := 113) rfl) rfl
theorem wn_9_115 : (Jvm.Cond.lays "CircuitCyclesModel" "CircuitCyclesModel" "valueFits" "Z") ∈ xw_G := xw_c9 (List.mem_of_getElem? (i := 115) rfl) rfl
theorem wn_9_117 : (Jvm.Cond.lays "CircuitCyclesModel" "CircuitCyclesModel" "tapeSize" "I") ∈ xw_G := xw_c9 (List.mem_of_getElem? (i := 117) rfl) rfl
theorem wn_9_119 : (Jvm.Cond.lays "CircuitCyclesModel" "CircuitCyclesModel" "textSize" "I") ∈ xw_G := xw_c9 (List.mem_of_getElem? (i := 119) rfl) rfl
theorem wn_9_121 : (Jvm.Cond.laysFinal "CircuitCyclesModel" "CircuitCyclesModel" "src" "[B") ∈ xw_G := xw_c9 (List.mem_of_getElem? (i := 121) rfl) rfl
theorem wn_9_124 : (Jvm.Cond.arrayClass Jvm.ClassFile.FieldType.boolean) ∈ xw_G := xw_c9 (List.mem_of_getElem? (i := 124) rfl) rfl
theorem wn_9_133 : (Jvm.Cond.methodLink "CircuitCyclesModel" (539 : Nat) ({ cls := "CircuitCyclesModel", name := "readSource", desc := "()V" } : Jvm.MethodName)) ∈ xw_G := xw_c9 (List.mem_of_getElem? (i := 133) rfl) rfl
theorem wn_9_135 : (Jvm.Cond.instanceMethod ({ cls := "CircuitCyclesModel", name := "readSource", desc := "()V" } : Jvm.MethodName)) ∈ xw_G := xw_c9 (List.mem_of_getElem? (i := 135) rfl) rfl
theorem wn_9_136 : (Jvm.Cond.code ({ cls := "CircuitCyclesModel", name := "readSource", desc := "()V" } : Jvm.MethodName) prog_14_method_82_code (1 : Nat) (Option.none : Option Jvm.ClassFile.FieldType)) ∈ xw_G := xw_c9 (List.mem_of_getElem? (i := 136) rfl) rfl
theorem wn_9_137 : (Jvm.Cond.methodLink "CircuitCyclesModel" (518 : Nat) ({ cls := "CircuitCyclesModel", name := "cutTokens", desc := "()V" } : Jvm.MethodName)) ∈ xw_G := xw_c9 (List.mem_of_getElem? (i := 137) rfl) rfl
theorem wn_9_139 : (Jvm.Cond.instanceMethod ({ cls := "CircuitCyclesModel", name := "cutTokens", desc := "()V" } : Jvm.MethodName)) ∈ xw_G := xw_c9 (List.mem_of_getElem? (i := 139) rfl) rfl
theorem wn_9_140 : (Jvm.Cond.code ({ cls := "CircuitCyclesModel", name := "cutTokens", desc := "()V" } : Jvm.MethodName) prog_14_method_16_code (4 : Nat) (Option.none : Option Jvm.ClassFile.FieldType)) ∈ xw_G := xw_c9 (List.mem_of_getElem? (i := 140) rfl) rfl
theorem wn_9_141 : (Jvm.Cond.methodLink "CircuitCyclesModel" (234 : Nat) ({ cls := "CircuitCyclesModel", name := "skip", desc := "(I)I" } : Jvm.MethodName)) ∈ xw_G := xw_c9 (List.mem_of_getElem? (i := 141) rfl) rfl
theorem wn_9_143 : (Jvm.Cond.instanceMethod ({ cls := "CircuitCyclesModel", name := "skip", desc := "(I)I" } : Jvm.MethodName)) ∈ xw_G := xw_c9 (List.mem_of_getElem? (i := 143) rfl) rfl
theorem wn_9_144 : (Jvm.Cond.code ({ cls := "CircuitCyclesModel", name := "skip", desc := "(I)I" } : Jvm.MethodName) prog_14_method_7_code (5 : Nat) (Option.some Jvm.ClassFile.FieldType.int)) ∈ xw_G := xw_c9 (List.mem_of_getElem? (i := 144) rfl) rfl
theorem wn_9_145 : (Jvm.Cond.methodLink "CircuitCyclesModel" (206 : Nat) ({ cls := "CircuitCyclesModel", name := "at", desc := "(I)I" } : Jvm.MethodName)) ∈ xw_G := xw_c9 (List.mem_of_getElem? (i := 145) rfl) rfl
theorem wn_9_147 : (Jvm.Cond.instanceMethod ({ cls := "CircuitCyclesModel", name := "at", desc := "(I)I" } : Jvm.MethodName)) ∈ xw_G := xw_c9 (List.mem_of_getElem? (i := 147) rfl) rfl
theorem wn_9_148 : (Jvm.Cond.code ({ cls := "CircuitCyclesModel", name := "at", desc := "(I)I" } : Jvm.MethodName) prog_14_method_3_code (2 : Nat) (Option.some Jvm.ClassFile.FieldType.int)) ∈ xw_G := xw_c9 (List.mem_of_getElem? (i := 148) rfl) rfl
theorem wn_9_149 : (Jvm.Cond.methodLink "CircuitCyclesModel" (237 : Nat) ({ cls := "CircuitCyclesModel", name := "token", desc := "(III)V" } : Jvm.MethodName)) ∈ xw_G := xw_c9 (List.mem_of_getElem? (i := 149) rfl) rfl
theorem wn_9_151 : (Jvm.Cond.instanceMethod ({ cls := "CircuitCyclesModel", name := "token", desc := "(III)V" } : Jvm.MethodName)) ∈ xw_G := xw_c9 (List.mem_of_getElem? (i := 151) rfl) rfl
theorem wn_9_152 : (Jvm.Cond.code ({ cls := "CircuitCyclesModel", name := "token", desc := "(III)V" } : Jvm.MethodName) prog_14_method_15_code (4 : Nat) (Option.none : Option Jvm.ClassFile.FieldType)) ∈ xw_G := xw_c9 (List.mem_of_getElem? (i := 152) rfl) rfl
theorem wn_9_191 : (Jvm.Cond.methodLink "CircuitCyclesModel" (521 : Nat) ({ cls := "CircuitCyclesModel", name := "designGrammar", desc := "()V" } : Jvm.MethodName)) ∈ xw_G := xw_c9 (List.mem_of_getElem? (i := 191) rfl) rfl
theorem wn_9_193 : (Jvm.Cond.instanceMethod ({ cls := "CircuitCyclesModel", name := "designGrammar", desc := "()V" } : Jvm.MethodName)) ∈ xw_G := xw_c9 (List.mem_of_getElem? (i := 193) rfl) rfl
theorem wn_9_194 : (Jvm.Cond.code ({ cls := "CircuitCyclesModel", name := "designGrammar", desc := "()V" } : Jvm.MethodName) prog_14_method_39_code (2 : Nat) (Option.none : Option Jvm.ClassFile.FieldType)) ∈ xw_G := xw_c9 (List.mem_of_getElem? (i := 194) rfl) rfl
theorem wn_9_195 : (Jvm.Cond.methodLink "CircuitCyclesModel" (279 : Nat) ({ cls := "CircuitCyclesModel", name := "take", desc := "(I)V" } : Jvm.MethodName)) ∈ xw_G := xw_c9 (List.mem_of_getElem? (i := 195) rfl) rfl
theorem wn_9_197 : (Jvm.Cond.instanceMethod ({ cls := "CircuitCyclesModel", name := "take", desc := "(I)V" } : Jvm.MethodName)) ∈ xw_G := xw_c9 (List.mem_of_getElem? (i := 197) rfl) rfl
theorem wn_9_198 : (Jvm.Cond.code ({ cls := "CircuitCyclesModel", name := "take", desc := "(I)V" } : Jvm.MethodName) prog_14_method_23_code (2 : Nat) (Option.none : Option Jvm.ClassFile.FieldType)) ∈ xw_G := xw_c9 (List.mem_of_getElem? (i := 198) rfl) rfl
theorem wn_9_199 : (Jvm.Cond.methodLink "CircuitCyclesModel" (270 : Nat) ({ cls := "CircuitCyclesModel", name := "no", desc := "()V" } : Jvm.MethodName)) ∈ xw_G := xw_c9 (List.mem_of_getElem? (i := 199) rfl) rfl
theorem wn_9_201 : (Jvm.Cond.instanceMethod ({ cls := "CircuitCyclesModel", name := "no", desc := "()V" } : Jvm.MethodName)) ∈ xw_G := xw_c9 (List.mem_of_getElem? (i := 201) rfl) rfl
theorem wn_9_202 : (Jvm.Cond.code ({ cls := "CircuitCyclesModel", name := "no", desc := "()V" } : Jvm.MethodName) prog_14_method_22_code (1 : Nat) (Option.none : Option Jvm.ClassFile.FieldType)) ∈ xw_G := xw_c9 (List.mem_of_getElem? (i := 202) rfl) rfl
theorem wn_9_203 : (Jvm.Cond.methodLink "CircuitCyclesModel" (266 : Nat) ({ cls := "CircuitCyclesModel", name := "fail", desc := "(II)V" } : Jvm.MethodName)) ∈ xw_G := xw_c9 (List.mem_of_getElem? (i := 203) rfl) rfl
theorem wn_9_205 : (Jvm.Cond.instanceMethod ({ cls := "CircuitCyclesModel", name := "fail", desc := "(II)V" } : Jvm.MethodName)) ∈ xw_G := xw_c9 (List.mem_of_getElem? (i := 205) rfl) rfl
theorem wn_9_206 : (Jvm.Cond.code ({ cls := "CircuitCyclesModel", name := "fail", desc := "(II)V" } : Jvm.MethodName) prog_14_method_19_code (3 : Nat) (Option.none : Option Jvm.ClassFile.FieldType)) ∈ xw_G := xw_c9 (List.mem_of_getElem? (i := 206) rfl) rfl
theorem wn_9_207 : (Jvm.Cond.methodLink "CircuitCyclesModel" (293 : Nat) ({ cls := "CircuitCyclesModel", name := "open", desc := "(I)V" } : Jvm.MethodName)) ∈ xw_G := xw_c9 (List.mem_of_getElem? (i := 207) rfl) rfl
theorem wn_9_209 : (Jvm.Cond.instanceMethod ({ cls := "CircuitCyclesModel", name := "open", desc := "(I)V" } : Jvm.MethodName)) ∈ xw_G := xw_c9 (List.mem_of_getElem? (i := 209) rfl) rfl
theorem wn_9_210 : (Jvm.Cond.code ({ cls := "CircuitCyclesModel", name := "open", desc := "(I)V" } : Jvm.MethodName) prog_14_method_24_code (2 : Nat) (Option.none : Option Jvm.ClassFile.FieldType)) ∈ xw_G := xw_c9 (List.mem_of_getElem? (i := 210) rfl) rfl
theorem wn_9_211 : (Jvm.Cond.methodLink "CircuitCyclesModel" (273 : Nat) ({ cls := "CircuitCyclesModel", name := "is", desc := "(I)Z" } : Jvm.MethodName)) ∈ xw_G := xw_c9 (List.mem_of_getElem? (i := 211) rfl) rfl
theorem wn_9_213 : (Jvm.Cond.instanceMethod ({ cls := "CircuitCyclesModel", name := "is", desc := "(I)Z" } : Jvm.MethodName)) ∈ xw_G := xw_c9 (List.mem_of_getElem? (i := 213) rfl) rfl
theorem wn_9_214 : (Jvm.Cond.code ({ cls := "CircuitCyclesModel", name := "is", desc := "(I)Z" } : Jvm.MethodName) prog_14_method_21_code (2 : Nat) (Option.some Jvm.ClassFile.FieldType.boolean)) ∈ xw_G := xw_c9 (List.mem_of_getElem? (i := 214) rfl) rfl
theorem wn_9_223 : (Jvm.Cond.methodLink "CircuitCyclesModel" (305 : Nat) ({ cls := "CircuitCyclesModel", name := "shut", desc := "(I)V" } : Jvm.MethodName)) ∈ xw_G := xw_c9 (List.mem_of_getElem? (i := 223) rfl) rfl
theorem wn_9_225 : (Jvm.Cond.instanceMethod ({ cls := "CircuitCyclesModel", name := "shut", desc := "(I)V" } : Jvm.MethodName)) ∈ xw_G := xw_c9 (List.mem_of_getElem? (i := 225) rfl) rfl
theorem wn_9_226 : (Jvm.Cond.code ({ cls := "CircuitCyclesModel", name := "shut", desc := "(I)V" } : Jvm.MethodName) prog_14_method_25_code (2 : Nat) (Option.none : Option Jvm.ClassFile.FieldType)) ∈ xw_G := xw_c9 (List.mem_of_getElem? (i := 226) rfl) rfl
theorem in_M : ∀ w ∈ u_ws rn_M fn_M 91, w ∈ xw_G := by
  show ∀ w ∈ ([(Jvm.Cond.lays "CircuitCyclesModel" "CircuitCyclesModel" "thrown" "I"), (Jvm.Cond.laysFinal "CircuitCyclesModel" "CircuitCyclesModel" "tape" "[B"), (Jvm.Cond.lays "CircuitCyclesModel" "CircuitCyclesModel" "size" "I"), (Jvm.Cond.lays "CircuitCyclesModel" "CircuitCyclesModel" "fault" "I"), (Jvm.Cond.laysFinal "CircuitCyclesModel" "CircuitCyclesModel" "kinds" "[I"), (Jvm.Cond.laysFinal "CircuitCyclesModel" "CircuitCyclesModel" "begins" "[I"), (Jvm.Cond.laysFinal "CircuitCyclesModel" "CircuitCyclesModel" "ends" "[I"), (Jvm.Cond.lays "CircuitCyclesModel" "CircuitCyclesModel" "tokens" "I"), (Jvm.Cond.lays "CircuitCyclesModel" "CircuitCyclesModel" "t" "I"), (Jvm.Cond.lays "CircuitCyclesModel" "CircuitCyclesModel" "wrong" "I"), (Jvm.Cond.lays "CircuitCyclesModel" "CircuitCyclesModel" "wrongAt" "I"), (Jvm.Cond.lays "CircuitCyclesModel" "CircuitCyclesModel" "deep" "I"), (Jvm.Cond.lays "CircuitCyclesModel" "CircuitCyclesModel" "modules" "I"), (Jvm.Cond.laysFinal "CircuitCyclesModel" "CircuitCyclesModel" "moduleName" "[I"), (Jvm.Cond.laysFinal "CircuitCyclesModel" "CircuitCyclesModel" "firstSignal" "[I"), (Jvm.Cond.laysFinal "CircuitCyclesModel" "CircuitCyclesModel" "firstInstance" "[I"), (Jvm.Cond.laysFinal "CircuitCyclesModel" "CircuitCyclesModel" "firstAssert" "[I"), (Jvm.Cond.laysFinal "CircuitCyclesModel" "CircuitCyclesModel" "firstAlways" "[I"), (Jvm.Cond.lays "CircuitCyclesModel" "CircuitCyclesModel" "locals" "I"), (Jvm.Cond.laysFinal "CircuitCyclesModel" "CircuitCyclesModel" "localName" "[I"), (Jvm.Cond.laysFinal "CircuitCyclesModel" "CircuitCyclesModel" "localWidth" "[I"), (Jvm.Cond.laysFinal "CircuitCyclesModel" "CircuitCyclesModel" "localKind" "[I"), (Jvm.Cond.laysFinal "CircuitCyclesModel" "CircuitCyclesModel" "localFirst" "[J"), (Jvm.Cond.laysFinal "CircuitCyclesModel" "CircuitCyclesModel" "driverKind" "[I"), (Jvm.Cond.laysFinal "CircuitCyclesModel" "CircuitCyclesModel" "driverFrom" "[I"), (Jvm.Cond.laysFinal "CircuitCyclesModel" "CircuitCyclesModel" "driverTo" "[I"), (Jvm.Cond.laysFinal "CircuitCyclesModel" "CircuitCyclesModel" "setIn" "[I"), (Jvm.Cond.lays "CircuitCyclesModel" "CircuitCyclesModel" "items" "I"), (Jvm.Cond.laysFinal "CircuitCyclesModel" "CircuitCyclesModel" "itemModule" "[I"), (Jvm.Cond.laysFinal "CircuitCyclesModel" "CircuitCyclesModel" "itemName" "[I"), (Jvm.Cond.laysFinal "CircuitCyclesModel" "CircuitCyclesModel" "firstLink" "[I"), (Jvm.Cond.lays "CircuitCyclesModel" "CircuitCyclesModel" "links" "I"), (Jvm.Cond.laysFinal "CircuitCyclesModel" "CircuitCyclesModel" "linkPort" "[I"), (Jvm.Cond.laysFinal "CircuitCyclesModel" "CircuitCyclesModel" "linkFrom" "[I"), (Jvm.Cond.laysFinal "CircuitCyclesModel" "CircuitCyclesModel" "linkTo" "[I"), (Jvm.Cond.lays "CircuitCyclesModel" "CircuitCyclesModel" "asserts" "I"), (Jvm.Cond.laysFinal "CircuitCyclesModel" "CircuitCyclesModel" "assertFrom" "[I"), (Jvm.Cond.laysFinal "CircuitCyclesModel" "CircuitCyclesModel" "assertTo" "[I"), (Jvm.Cond.lays "CircuitCyclesModel" "CircuitCyclesModel" "always" "I"), (Jvm.Cond.laysFinal "CircuitCyclesModel" "CircuitCyclesModel" "alwaysFrom" "[I"), (Jvm.Cond.laysFinal "CircuitCyclesModel" "CircuitCyclesModel" "alwaysTo" "[I"), (Jvm.Cond.lays "CircuitCyclesModel" "CircuitCyclesModel" "code" "[I"), (Jvm.Cond.lays "CircuitCyclesModel" "CircuitCyclesModel" "laid" "I"), (Jvm.Cond.lays "CircuitCyclesModel" "CircuitCyclesModel" "numbers" "[J"), (Jvm.Cond.lays "CircuitCyclesModel" "CircuitCyclesModel" "numberCount" "I"), (Jvm.Cond.laysFinal "CircuitCyclesModel" "CircuitCyclesModel" "moduleCost" "[J"), (Jvm.Cond.laysFinal "CircuitCyclesModel" "CircuitCyclesModel" "moduleInstances" "[J"), (Jvm.Cond.laysFinal "CircuitCyclesModel" "CircuitCyclesModel" "moduleSignals" "[J"), (Jvm.Cond.laysFinal "CircuitCyclesModel" "CircuitCyclesModel" "moduleBits" "[J"), (Jvm.Cond.laysFinal "CircuitCyclesModel" "CircuitCyclesModel" "waitOp" "[I"), (Jvm.Cond.laysFinal "CircuitCyclesModel" "CircuitCyclesModel" "waitAt" "[I"), (Jvm.Cond.lays "CircuitCyclesModel" "CircuitCyclesModel" "waits" "I"), (Jvm.Cond.laysFinal "CircuitCyclesModel" "CircuitCyclesModel" "widths" "[I"), (Jvm.Cond.lays "CircuitCyclesModel" "CircuitCyclesModel" "widthCount" "I"), (Jvm.Cond.lays "CircuitCyclesModel" "CircuitCyclesModel" "there" "Z"), (Jvm.Cond.laysFinal "CircuitCyclesModel" "CircuitCyclesModel" "text" "[B"), (Jvm.Cond.lays "CircuitCyclesModel" "CircuitCyclesModel" "instances" "I"), (Jvm.Cond.laysFinal "CircuitCyclesModel" "CircuitCyclesModel" "instanceModule" "[I"), (Jvm.Cond.laysFinal "CircuitCyclesModel" "CircuitCyclesModel" "instanceBase" "[I"), (Jvm.Cond.laysFinal "CircuitCyclesModel" "CircuitCyclesModel" "instanceUp" "[I"), (Jvm.Cond.laysFinal "CircuitCyclesModel" "CircuitCyclesModel" "instanceItem" "[I"), (Jvm.Cond.laysFinal "CircuitCyclesModel" "CircuitCyclesModel" "stack" "[I"), (Jvm.Cond.laysFinal "CircuitCyclesModel" "CircuitCyclesModel" "stackNext" "[I"), (Jvm.Cond.lays "CircuitCyclesModel" "CircuitCyclesModel" "signals" "I"), (Jvm.Cond.laysFinal "CircuitCyclesModel" "CircuitCyclesModel" "signalLocal" "[I"), (Jvm.Cond.laysFinal "CircuitCyclesModel" "CircuitCyclesModel" "signalInstance" "[I"), (Jvm.Cond.laysFinal "CircuitCyclesModel" "CircuitCyclesModel" "ruleKind" "[I"), (Jvm.Cond.laysFinal "CircuitCyclesModel" "CircuitCyclesModel" "ruleFrom" "[I"), (Jvm.Cond.laysFinal "CircuitCyclesModel" "CircuitCyclesModel" "ruleTo" "[I"), (Jvm.Cond.laysFinal "CircuitCyclesModel" "CircuitCyclesModel" "ruleFor" "[I"), (Jvm.Cond.laysFinal "CircuitCyclesModel" "CircuitCyclesModel" "order" "[I"), (Jvm.Cond.lays "CircuitCyclesModel" "CircuitCyclesModel" "ordered" "I"), (Jvm.Cond.laysFinal "CircuitCyclesModel" "CircuitCyclesModel" "ready" "[Z"), (Jvm.Cond.laysFinal "CircuitCyclesModel" "CircuitCyclesModel" "met" "[Z"), (Jvm.Cond.laysFinal "CircuitCyclesModel" "CircuitCyclesModel" "queue" "[I"), (Jvm.Cond.lays "CircuitCyclesModel" "CircuitCyclesModel" "modulesThere" "I"), (Jvm.Cond.lays "CircuitCyclesModel" "CircuitCyclesModel" "registerBits" "I"), (Jvm.Cond.lays "CircuitCyclesModel" "CircuitCyclesModel" "inputBits" "I"), (Jvm.Cond.lays "CircuitCyclesModel" "CircuitCyclesModel" "assertsThere" "I"), (Jvm.Cond.lays "CircuitCyclesModel" "CircuitCyclesModel" "costThere" "J"), (Jvm.Cond.laysFinal "CircuitCyclesModel" "CircuitCyclesModel" "values" "[J"), (Jvm.Cond.laysFinal "CircuitCyclesModel" "CircuitCyclesModel" "nexts" "[J"), (Jvm.Cond.laysFinal "CircuitCyclesModel" "CircuitCyclesModel" "registers" "[J"), (Jvm.Cond.laysFinal "CircuitCyclesModel" "CircuitCyclesModel" "inputs" "[J"), (Jvm.Cond.laysFinal "CircuitCyclesModel" "CircuitCyclesModel" "pile" "[J"), (Jvm.Cond.lays "CircuitCyclesModel" "CircuitCyclesModel" "high" "I"), (Jvm.Cond.lays "CircuitCyclesModel" "CircuitCyclesModel" "cycle" "I"), (Jvm.Cond.lays "CircuitCyclesModel" "CircuitCyclesModel" "valueFits" "Z"), (Jvm.Cond.lays "CircuitCyclesModel" "CircuitCyclesModel" "tapeSize" "I"), (Jvm.Cond.lays "CircuitCyclesModel" "CircuitCyclesModel" "textSize" "I"), (Jvm.Cond.laysFinal "CircuitCyclesModel" "CircuitCyclesModel" "src" "[B")] : List Cond), w ∈ xw_G
  exact List.forall_mem_cons.mpr ⟨wn_8_181, List.forall_mem_cons.mpr ⟨wn_8_183, List.forall_mem_cons.mpr ⟨wn_8_185, List.forall_mem_cons.mpr ⟨wn_8_187, List.forall_mem_cons.mpr ⟨wn_8_189, List.forall_mem_cons.mpr ⟨wn_8_191, List.forall_mem_cons.mpr ⟨wn_8_193, List.forall_mem_cons.mpr ⟨wn_8_195, List.forall_mem_cons.mpr ⟨wn_8_197, List.forall_mem_cons.mpr ⟨wn_8_199, List.forall_mem_cons.mpr ⟨wn_8_201, List.forall_mem_cons.mpr ⟨wn_8_203, List.forall_mem_cons.mpr ⟨wn_8_205, List.forall_mem_cons.mpr ⟨wn_8_207, List.forall_mem_cons.mpr ⟨wn_8_209, List.forall_mem_cons.mpr ⟨wn_8_211, List.forall_mem_cons.mpr ⟨wn_8_213, List.forall_mem_cons.mpr ⟨wn_8_215, List.forall_mem_cons.mpr ⟨wn_8_217, List.forall_mem_cons.mpr ⟨wn_8_219, List.forall_mem_cons.mpr ⟨wn_8_221, List.forall_mem_cons.mpr ⟨wn_8_223, List.forall_mem_cons.mpr ⟨wn_8_225, List.forall_mem_cons.mpr ⟨wn_8_227, List.forall_mem_cons.mpr ⟨wn_8_229, List.forall_mem_cons.mpr ⟨wn_8_231, List.forall_mem_cons.mpr ⟨wn_8_233, List.forall_mem_cons.mpr ⟨wn_8_235, List.forall_mem_cons.mpr ⟨wn_8_237, List.forall_mem_cons.mpr ⟨wn_8_239, List.forall_mem_cons.mpr ⟨wn_9_1, List.forall_mem_cons.mpr ⟨wn_9_3, List.forall_mem_cons.mpr ⟨wn_9_5, List.forall_mem_cons.mpr ⟨wn_9_7, List.forall_mem_cons.mpr ⟨wn_9_9, List.forall_mem_cons.mpr ⟨wn_9_11, List.forall_mem_cons.mpr ⟨wn_9_13, List.forall_mem_cons.mpr ⟨wn_9_15, List.forall_mem_cons.mpr ⟨wn_9_17, List.forall_mem_cons.mpr ⟨wn_9_19, List.forall_mem_cons.mpr ⟨wn_9_21, List.forall_mem_cons.mpr ⟨wn_9_23, List.forall_mem_cons.mpr ⟨wn_9_25, List.forall_mem_cons.mpr ⟨wn_9_27, List.forall_mem_cons.mpr ⟨wn_9_29, List.forall_mem_cons.mpr ⟨wn_9_31, List.forall_mem_cons.mpr ⟨wn_9_33, List.forall_mem_cons.mpr ⟨wn_9_35, List.forall_mem_cons.mpr ⟨wn_9_37, List.forall_mem_cons.mpr ⟨wn_9_39, List.forall_mem_cons.mpr ⟨wn_9_41, List.forall_mem_cons.mpr ⟨wn_9_43, List.forall_mem_cons.mpr ⟨wn_9_45, List.forall_mem_cons.mpr ⟨wn_9_47, List.forall_mem_cons.mpr ⟨wn_9_49, List.forall_mem_cons.mpr ⟨wn_9_51, List.forall_mem_cons.mpr ⟨wn_9_53, List.forall_mem_cons.mpr ⟨wn_9_55, List.forall_mem_cons.mpr ⟨wn_9_57, List.forall_mem_cons.mpr ⟨wn_9_59, List.forall_mem_cons.mpr ⟨wn_9_61, List.forall_mem_cons.mpr ⟨wn_9_63, List.forall_mem_cons.mpr ⟨wn_9_65, List.forall_mem_cons.mpr ⟨wn_9_67, List.forall_mem_cons.mpr ⟨wn_9_69, List.forall_mem_cons.mpr ⟨wn_9_71, List.forall_mem_cons.mpr ⟨wn_9_73, List.forall_mem_cons.mpr ⟨wn_9_75, List.forall_mem_cons.mpr ⟨wn_9_77, List.forall_mem_cons.mpr ⟨wn_9_79, List.forall_mem_cons.mpr ⟨wn_9_81, List.forall_mem_cons.mpr ⟨wn_9_83, List.forall_mem_cons.mpr ⟨wn_9_85, List.forall_mem_cons.mpr ⟨wn_9_87, List.forall_mem_cons.mpr ⟨wn_9_89, List.forall_mem_cons.mpr ⟨wn_9_91, List.forall_mem_cons.mpr ⟨wn_9_93, List.forall_mem_cons.mpr ⟨wn_9_95, List.forall_mem_cons.mpr ⟨wn_9_97, List.forall_mem_cons.mpr ⟨wn_9_99, List.forall_mem_cons.mpr ⟨wn_9_101, List.forall_mem_cons.mpr ⟨wn_9_103, List.forall_mem_cons.mpr ⟨wn_9_105, List.forall_mem_cons.mpr ⟨wn_9_107, List.forall_mem_cons.mpr ⟨wn_9_109, List.forall_mem_cons.mpr ⟨wn_9_111, List.forall_mem_cons.mpr ⟨wn_9_113, List.forall_mem_cons.mpr ⟨wn_9_115, List.forall_mem_cons.mpr ⟨wn_9_117, List.forall_mem_cons.mpr ⟨wn_9_119, List.forall_mem_cons.mpr ⟨wn_9_121, (List.forall_mem_nil _)⟩⟩⟩⟩⟩⟩⟩⟩⟩⟩⟩⟩⟩⟩⟩⟩⟩⟩⟩⟩⟩⟩⟩⟩⟩⟩⟩⟩⟩⟩⟩⟩⟩⟩⟩⟩⟩⟩⟩⟩⟩⟩⟩⟩⟩⟩⟩⟩⟩⟩⟩⟩⟩⟩⟩⟩⟩⟩⟩⟩⟩⟩⟩⟩⟩⟩⟩⟩⟩⟩⟩⟩⟩⟩⟩⟩⟩⟩⟩⟩⟩⟩⟩⟩⟩⟩⟩⟩⟩⟩⟩
theorem in_C : ∀ w ∈ u_ws rn_C fn_C 11, w ∈ xw_G := by
  show ∀ w ∈ ([(Jvm.Cond.lays "CircuitCycles" "CircuitCycles" "tape" "[B"), (Jvm.Cond.lays "CircuitCycles" "CircuitCycles" "length" "I"), (Jvm.Cond.lays "CircuitCycles" "CircuitCycles" "faultCode" "I"), (Jvm.Cond.laysFinal "CircuitCycles" "CircuitCycles" "tokens" "LCircuitCycles$Tokens;"), (Jvm.Cond.laysFinal "CircuitCycles" "CircuitCycles" "scanner" "LCircuitCycles$Scanner;"), (Jvm.Cond.laysFinal "CircuitCycles" "CircuitCycles" "checker" "LCircuitCycles$Checker;"), (Jvm.Cond.laysFinal "CircuitCycles" "CircuitCycles" "grammar" "LCircuitCycles$Grammar;"), (Jvm.Cond.laysFinal "CircuitCycles" "CircuitCycles" "order" "LCircuitCycles$Order;"), (Jvm.Cond.laysFinal "CircuitCycles" "CircuitCycles" "machine" "LCircuitCycles$Machine;"), (Jvm.Cond.lays "CircuitCycles" "CircuitCycles" "circuit" "LCircuitCycles$Circuit;"), (Jvm.Cond.lays "CircuitCycles" "CircuitCycles" "spare" "LCircuitCycles$Circuit;")] : List Cond), w ∈ xw_G
  exact List.forall_mem_cons.mpr ⟨wn_3_156, List.forall_mem_cons.mpr ⟨wn_3_158, List.forall_mem_cons.mpr ⟨wn_3_160, List.forall_mem_cons.mpr ⟨wn_3_162, List.forall_mem_cons.mpr ⟨wn_3_164, List.forall_mem_cons.mpr ⟨wn_3_166, List.forall_mem_cons.mpr ⟨wn_3_168, List.forall_mem_cons.mpr ⟨wn_3_170, List.forall_mem_cons.mpr ⟨wn_3_172, List.forall_mem_cons.mpr ⟨wn_3_174, List.forall_mem_cons.mpr ⟨wn_3_176, (List.forall_mem_nil _)⟩⟩⟩⟩⟩⟩⟩⟩⟩⟩⟩
theorem in_Tokens : ∀ w ∈ u_ws rn_Tokens fn_Tokens 11, w ∈ xw_G := by
  show ∀ w ∈ ([(Jvm.Cond.lays "CircuitCycles$Tokens" "CircuitCycles$Tokens" "kinds" "[I"), (Jvm.Cond.lays "CircuitCycles$Tokens" "CircuitCycles$Tokens" "places" "[I"), (Jvm.Cond.lays "CircuitCycles$Tokens" "CircuitCycles$Tokens" "extras" "[I"), (Jvm.Cond.lays "CircuitCycles$Tokens" "CircuitCycles$Tokens" "size" "I"), (Jvm.Cond.lays "CircuitCycles$Tokens" "CircuitCycles$Tokens" "index" "I"), (Jvm.Cond.lays "CircuitCycles$Tokens" "CircuitCycles$Tokens" "kind" "I"), (Jvm.Cond.lays "CircuitCycles$Tokens" "CircuitCycles$Tokens" "place" "I"), (Jvm.Cond.lays "CircuitCycles$Tokens" "CircuitCycles$Tokens" "extra" "I"), (Jvm.Cond.lays "CircuitCycles$Tokens" "CircuitCycles$Tokens" "faultCode" "I"), (Jvm.Cond.lays "CircuitCycles$Tokens" "CircuitCycles$Tokens" "faultPlace" "I"), (Jvm.Cond.lays "CircuitCycles$Tokens" "CircuitCycles$Tokens" "opens" "I")] : List Cond), w ∈ xw_G
  exact List.forall_mem_cons.mpr ⟨wn_1_64, List.forall_mem_cons.mpr ⟨wn_1_66, List.forall_mem_cons.mpr ⟨wn_1_68, List.forall_mem_cons.mpr ⟨wn_1_70, List.forall_mem_cons.mpr ⟨wn_1_72, List.forall_mem_cons.mpr ⟨wn_1_74, List.forall_mem_cons.mpr ⟨wn_1_76, List.forall_mem_cons.mpr ⟨wn_1_78, List.forall_mem_cons.mpr ⟨wn_1_80, List.forall_mem_cons.mpr ⟨wn_1_82, List.forall_mem_cons.mpr ⟨wn_1_84, (List.forall_mem_nil _)⟩⟩⟩⟩⟩⟩⟩⟩⟩⟩⟩
theorem in_Scanner : ∀ w ∈ u_ws rn_Scanner fn_Scanner 10, w ∈ xw_G := by
  show ∀ w ∈ ([(Jvm.Cond.laysFinal "CircuitCycles$Scanner" "CircuitCycles$Scanner" "tokens" "LCircuitCycles$Tokens;"), (Jvm.Cond.lays "CircuitCycles$Scanner" "CircuitCycles$Scanner" "text" "[B"), (Jvm.Cond.lays "CircuitCycles$Scanner" "CircuitCycles$Scanner" "length" "I"), (Jvm.Cond.lays "CircuitCycles$Scanner" "CircuitCycles$Scanner" "code" "LCircuitCycles$Code;"), (Jvm.Cond.laysFinal "CircuitCycles$Scanner" "CircuitCycles$Scanner" "heads" "[I"), (Jvm.Cond.lays "CircuitCycles$Scanner" "CircuitCycles$Scanner" "nexts" "[I"), (Jvm.Cond.lays "CircuitCycles$Scanner" "CircuitCycles$Scanner" "wordStarts" "[I"), (Jvm.Cond.lays "CircuitCycles$Scanner" "CircuitCycles$Scanner" "wordStops" "[I"), (Jvm.Cond.lays "CircuitCycles$Scanner" "CircuitCycles$Scanner" "wordKinds" "[I"), (Jvm.Cond.lays "CircuitCycles$Scanner" "CircuitCycles$Scanner" "words" "I")] : List Cond), w ∈ xw_G
  exact List.forall_mem_cons.mpr ⟨wn_1_106, List.forall_mem_cons.mpr ⟨wn_1_108, List.forall_mem_cons.mpr ⟨wn_1_110, List.forall_mem_cons.mpr ⟨wn_1_112, List.forall_mem_cons.mpr ⟨wn_1_114, List.forall_mem_cons.mpr ⟨wn_1_116, List.forall_mem_cons.mpr ⟨wn_1_118, List.forall_mem_cons.mpr ⟨wn_1_120, List.forall_mem_cons.mpr ⟨wn_1_122, List.forall_mem_cons.mpr ⟨wn_1_124, (List.forall_mem_nil _)⟩⟩⟩⟩⟩⟩⟩⟩⟩⟩
theorem in_Checker : ∀ w ∈ u_ws rn_Checker fn_Checker 14, w ∈ xw_G := by
  show ∀ w ∈ ([(Jvm.Cond.laysFinal "CircuitCycles$Checker" "CircuitCycles$Checker" "tokens" "LCircuitCycles$Tokens;"), (Jvm.Cond.lays "CircuitCycles$Checker" "CircuitCycles$Checker" "parts" "LCircuitCycles$Parts;"), (Jvm.Cond.lays "CircuitCycles$Checker" "CircuitCycles$Checker" "code" "LCircuitCycles$Code;"), (Jvm.Cond.lays "CircuitCycles$Checker" "CircuitCycles$Checker" "module" "I"), (Jvm.Cond.lays "CircuitCycles$Checker" "CircuitCycles$Checker" "firstDecl" "I"), (Jvm.Cond.lays "CircuitCycles$Checker" "CircuitCycles$Checker" "modules" "[I"), (Jvm.Cond.lays "CircuitCycles$Checker" "CircuitCycles$Checker" "decls" "[I"), (Jvm.Cond.lays "CircuitCycles$Checker" "CircuitCycles$Checker" "stamps" "[I"), (Jvm.Cond.laysFinal "CircuitCycles$Checker" "CircuitCycles$Checker" "widths" "[I"), (Jvm.Cond.lays "CircuitCycles$Checker" "CircuitCycles$Checker" "top" "I"), (Jvm.Cond.lays "CircuitCycles$Checker" "CircuitCycles$Checker" "expStart" "I"), (Jvm.Cond.lays "CircuitCycles$Checker" "CircuitCycles$Checker" "cost" "I"), (Jvm.Cond.lays "CircuitCycles$Checker" "CircuitCycles$Checker" "faultCode" "I"), (Jvm.Cond.lays "CircuitCycles$Checker" "CircuitCycles$Checker" "faultPlace" "I")] : List Cond), w ∈ xw_G
  exact List.forall_mem_cons.mpr ⟨wn_1_151, List.forall_mem_cons.mpr ⟨wn_1_153, List.forall_mem_cons.mpr ⟨wn_1_155, List.forall_mem_cons.mpr ⟨wn_1_157, List.forall_mem_cons.mpr ⟨wn_1_159, List.forall_mem_cons.mpr ⟨wn_1_161, List.forall_mem_cons.mpr ⟨wn_1_163, List.forall_mem_cons.mpr ⟨wn_1_165, List.forall_mem_cons.mpr ⟨wn_1_167, List.forall_mem_cons.mpr ⟨wn_1_169, List.forall_mem_cons.mpr ⟨wn_1_171, List.forall_mem_cons.mpr ⟨wn_1_173, List.forall_mem_cons.mpr ⟨wn_1_175, List.forall_mem_cons.mpr ⟨wn_1_177, (List.forall_mem_nil _)⟩⟩⟩⟩⟩⟩⟩⟩⟩⟩⟩⟩⟩⟩
theorem in_Meaning : ∀ w ∈ u_ws rn_Meaning fn_Meaning 17, w ∈ xw_G := by
  show ∀ w ∈ ([(Jvm.Cond.laysFinal "CircuitCycles$Meaning" "CircuitCycles$Meaning" "checker" "LCircuitCycles$Checker;"), (Jvm.Cond.lays "CircuitCycles$Meaning" "CircuitCycles$Meaning" "design" "LCircuitCycles$Design;"), (Jvm.Cond.lays "CircuitCycles$Meaning" "CircuitCycles$Meaning" "parts" "LCircuitCycles$Parts;"), (Jvm.Cond.lays "CircuitCycles$Meaning" "CircuitCycles$Meaning" "code" "LCircuitCycles$Code;"), (Jvm.Cond.lays "CircuitCycles$Meaning" "CircuitCycles$Meaning" "rangeWidth" "I"), (Jvm.Cond.lays "CircuitCycles$Meaning" "CircuitCycles$Meaning" "target" "I"), (Jvm.Cond.lays "CircuitCycles$Meaning" "CircuitCycles$Meaning" "targetLow" "I"), (Jvm.Cond.lays "CircuitCycles$Meaning" "CircuitCycles$Meaning" "targetWidth" "I"), (Jvm.Cond.lays "CircuitCycles$Meaning" "CircuitCycles$Meaning" "port" "I"), (Jvm.Cond.lays "CircuitCycles$Meaning" "CircuitCycles$Meaning" "alwaysNumber" "I"), (Jvm.Cond.lays "CircuitCycles$Meaning" "CircuitCycles$Meaning" "alwaysStart" "I"), (Jvm.Cond.lays "CircuitCycles$Meaning" "CircuitCycles$Meaning" "stores" "Z"), (Jvm.Cond.laysFinal "CircuitCycles$Meaning" "CircuitCycles$Meaning" "jumps" "[I"), (Jvm.Cond.laysFinal "CircuitCycles$Meaning" "CircuitCycles$Meaning" "exits" "[I"), (Jvm.Cond.laysFinal "CircuitCycles$Meaning" "CircuitCycles$Meaning" "matches" "[I"), (Jvm.Cond.laysFinal "CircuitCycles$Meaning" "CircuitCycles$Meaning" "widths" "[I"), (Jvm.Cond.lays "CircuitCycles$Meaning" "CircuitCycles$Meaning" "depth" "I")] : List Cond), w ∈ xw_G
  exact List.forall_mem_cons.mpr ⟨wn_1_205, List.forall_mem_cons.mpr ⟨wn_1_207, List.forall_mem_cons.mpr ⟨wn_1_209, List.forall_mem_cons.mpr ⟨wn_1_211, List.forall_mem_cons.mpr ⟨wn_1_213, List.forall_mem_cons.mpr ⟨wn_1_215, List.forall_mem_cons.mpr ⟨wn_1_217, List.forall_mem_cons.mpr ⟨wn_1_219, List.forall_mem_cons.mpr ⟨wn_1_221, List.forall_mem_cons.mpr ⟨wn_1_223, List.forall_mem_cons.mpr ⟨wn_1_225, List.forall_mem_cons.mpr ⟨wn_1_227, List.forall_mem_cons.mpr ⟨wn_1_229, List.forall_mem_cons.mpr ⟨wn_1_231, List.forall_mem_cons.mpr ⟨wn_1_233, List.forall_mem_cons.mpr ⟨wn_1_235, List.forall_mem_cons.mpr ⟨wn_1_237, (List.forall_mem_nil _)⟩⟩⟩⟩⟩⟩⟩⟩⟩⟩⟩⟩⟩⟩⟩⟩⟩
theorem in_Grammar : ∀ w ∈ u_ws rn_Grammar fn_Grammar 15, w ∈ xw_G := by
  show ∀ w ∈ ([(Jvm.Cond.laysFinal "CircuitCycles$Grammar" "CircuitCycles$Grammar" "tokens" "LCircuitCycles$Tokens;"), (Jvm.Cond.laysFinal "CircuitCycles$Grammar" "CircuitCycles$Grammar" "checker" "LCircuitCycles$Checker;"), (Jvm.Cond.laysFinal "CircuitCycles$Grammar" "CircuitCycles$Grammar" "meaning" "LCircuitCycles$Meaning;"), (Jvm.Cond.lays "CircuitCycles$Grammar" "CircuitCycles$Grammar" "state" "I"), (Jvm.Cond.lays "CircuitCycles$Grammar" "CircuitCycles$Grammar" "purpose" "I"), (Jvm.Cond.lays "CircuitCycles$Grammar" "CircuitCycles$Grammar" "signPlace" "I"), (Jvm.Cond.lays "CircuitCycles$Grammar" "CircuitCycles$Grammar" "linkPlace" "I"), (Jvm.Cond.lays "CircuitCycles$Grammar" "CircuitCycles$Grammar" "expPlace" "I"), (Jvm.Cond.lays "CircuitCycles$Grammar" "CircuitCycles$Grammar" "expIndex" "I"), (Jvm.Cond.laysFinal "CircuitCycles$Grammar" "CircuitCycles$Grammar" "contexts" "[I"), (Jvm.Cond.lays "CircuitCycles$Grammar" "CircuitCycles$Grammar" "depth" "I"), (Jvm.Cond.lays "CircuitCycles$Grammar" "CircuitCycles$Grammar" "heldKinds" "[I"), (Jvm.Cond.lays "CircuitCycles$Grammar" "CircuitCycles$Grammar" "heldPlaces" "[I"), (Jvm.Cond.lays "CircuitCycles$Grammar" "CircuitCycles$Grammar" "heldTimes" "[I"), (Jvm.Cond.lays "CircuitCycles$Grammar" "CircuitCycles$Grammar" "held" "I")] : List Cond), w ∈ xw_G
  exact List.forall_mem_cons.mpr ⟨wn_2_19, List.forall_mem_cons.mpr ⟨wn_2_21, List.forall_mem_cons.mpr ⟨wn_2_23, List.forall_mem_cons.mpr ⟨wn_2_25, List.forall_mem_cons.mpr ⟨wn_2_27, List.forall_mem_cons.mpr ⟨wn_2_29, List.forall_mem_cons.mpr ⟨wn_2_31, List.forall_mem_cons.mpr ⟨wn_2_33, List.forall_mem_cons.mpr ⟨wn_2_35, List.forall_mem_cons.mpr ⟨wn_2_37, List.forall_mem_cons.mpr ⟨wn_2_39, List.forall_mem_cons.mpr ⟨wn_2_41, List.forall_mem_cons.mpr ⟨wn_2_43, List.forall_mem_cons.mpr ⟨wn_2_45, List.forall_mem_cons.mpr ⟨wn_2_47, (List.forall_mem_nil _)⟩⟩⟩⟩⟩⟩⟩⟩⟩⟩⟩⟩⟩⟩⟩
theorem in_Order : ∀ w ∈ u_ws rn_Order fn_Order 10, w ∈ xw_G := by
  show ∀ w ∈ ([(Jvm.Cond.lays "CircuitCycles$Order" "CircuitCycles$Order" "circuit" "LCircuitCycles$Circuit;"), (Jvm.Cond.laysFinal "CircuitCycles$Order" "CircuitCycles$Order" "numbers" "[I"), (Jvm.Cond.laysFinal "CircuitCycles$Order" "CircuitCycles$Order" "lowest" "[I"), (Jvm.Cond.laysFinal "CircuitCycles$Order" "CircuitCycles$Order" "cursors" "[I"), (Jvm.Cond.laysFinal "CircuitCycles$Order" "CircuitCycles$Order" "path" "[I"), (Jvm.Cond.laysFinal "CircuitCycles$Order" "CircuitCycles$Order" "open" "[I"), (Jvm.Cond.lays "CircuitCycles$Order" "CircuitCycles$Order" "pathSize" "I"), (Jvm.Cond.lays "CircuitCycles$Order" "CircuitCycles$Order" "openSize" "I"), (Jvm.Cond.lays "CircuitCycles$Order" "CircuitCycles$Order" "seen" "I"), (Jvm.Cond.lays "CircuitCycles$Order" "CircuitCycles$Order" "looped" "I")] : List Cond), w ∈ xw_G
  exact List.forall_mem_cons.mpr ⟨wn_2_66, List.forall_mem_cons.mpr ⟨wn_2_68, List.forall_mem_cons.mpr ⟨wn_2_70, List.forall_mem_cons.mpr ⟨wn_2_72, List.forall_mem_cons.mpr ⟨wn_2_74, List.forall_mem_cons.mpr ⟨wn_2_76, List.forall_mem_cons.mpr ⟨wn_2_78, List.forall_mem_cons.mpr ⟨wn_2_80, List.forall_mem_cons.mpr ⟨wn_2_82, List.forall_mem_cons.mpr ⟨wn_2_84, (List.forall_mem_nil _)⟩⟩⟩⟩⟩⟩⟩⟩⟩⟩
theorem in_Machine : ∀ w ∈ u_ws rn_Machine fn_Machine 5, w ∈ xw_G := by
  show ∀ w ∈ ([(Jvm.Cond.laysFinal "CircuitCycles$Machine" "CircuitCycles$Machine" "values" "[J"), (Jvm.Cond.laysFinal "CircuitCycles$Machine" "CircuitCycles$Machine" "nexts" "[J"), (Jvm.Cond.laysFinal "CircuitCycles$Machine" "CircuitCycles$Machine" "stack" "[J"), (Jvm.Cond.lays "CircuitCycles$Machine" "CircuitCycles$Machine" "cycle" "I"), (Jvm.Cond.lays "CircuitCycles$Machine" "CircuitCycles$Machine" "settled" "Z")] : List Cond), w ∈ xw_G
  exact List.forall_mem_cons.mpr ⟨wn_2_98, List.forall_mem_cons.mpr ⟨wn_2_100, List.forall_mem_cons.mpr ⟨wn_2_102, List.forall_mem_cons.mpr ⟨wn_2_104, List.forall_mem_cons.mpr ⟨wn_2_106, (List.forall_mem_nil _)⟩⟩⟩⟩⟩
theorem in_Circuit : ∀ w ∈ u_ws rn_Circuit fn_Circuit 14, w ∈ xw_G := by
  show ∀ w ∈ ([(Jvm.Cond.laysFinal "CircuitCycles$Circuit" "CircuitCycles$Circuit" "design" "LCircuitCycles$Design;"), (Jvm.Cond.lays "CircuitCycles$Circuit" "CircuitCycles$Circuit" "instances" "I"), (Jvm.Cond.lays "CircuitCycles$Circuit" "CircuitCycles$Circuit" "signals" "I"), (Jvm.Cond.lays "CircuitCycles$Circuit" "CircuitCycles$Circuit" "bases" "[I"), (Jvm.Cond.lays "CircuitCycles$Circuit" "CircuitCycles$Circuit" "modules" "[I"), (Jvm.Cond.laysFinal "CircuitCycles$Circuit" "CircuitCycles$Circuit" "parents" "[I"), (Jvm.Cond.laysFinal "CircuitCycles$Circuit" "CircuitCycles$Circuit" "children" "[I"), (Jvm.Cond.laysFinal "CircuitCycles$Circuit" "CircuitCycles$Circuit" "decls" "[I"), (Jvm.Cond.laysFinal "CircuitCycles$Circuit" "CircuitCycles$Circuit" "starts" "[I"), (Jvm.Cond.laysFinal "CircuitCycles$Circuit" "CircuitCycles$Circuit" "stops" "[I"), (Jvm.Cond.laysFinal "CircuitCycles$Circuit" "CircuitCycles$Circuit" "frames" "[I"), (Jvm.Cond.laysFinal "CircuitCycles$Circuit" "CircuitCycles$Circuit" "sources" "[I"), (Jvm.Cond.laysFinal "CircuitCycles$Circuit" "CircuitCycles$Circuit" "order" "[I"), (Jvm.Cond.lays "CircuitCycles$Circuit" "CircuitCycles$Circuit" "ordered" "I")] : List Cond), w ∈ xw_G
  exact List.forall_mem_cons.mpr ⟨wn_3_116, List.forall_mem_cons.mpr ⟨wn_3_118, List.forall_mem_cons.mpr ⟨wn_3_120, List.forall_mem_cons.mpr ⟨wn_3_122, List.forall_mem_cons.mpr ⟨wn_3_124, List.forall_mem_cons.mpr ⟨wn_3_126, List.forall_mem_cons.mpr ⟨wn_3_128, List.forall_mem_cons.mpr ⟨wn_3_130, List.forall_mem_cons.mpr ⟨wn_3_132, List.forall_mem_cons.mpr ⟨wn_3_134, List.forall_mem_cons.mpr ⟨wn_3_136, List.forall_mem_cons.mpr ⟨wn_3_138, List.forall_mem_cons.mpr ⟨wn_3_140, List.forall_mem_cons.mpr ⟨wn_3_142, (List.forall_mem_nil _)⟩⟩⟩⟩⟩⟩⟩⟩⟩⟩⟩⟩⟩⟩
theorem in_Design : ∀ w ∈ u_ws rn_Design fn_Design 16, w ∈ xw_G := by
  show ∀ w ∈ ([(Jvm.Cond.laysFinal "CircuitCycles$Design" "CircuitCycles$Design" "parts" "LCircuitCycles$Parts;"), (Jvm.Cond.laysFinal "CircuitCycles$Design" "CircuitCycles$Design" "code" "LCircuitCycles$Code;"), (Jvm.Cond.lays "CircuitCycles$Design" "CircuitCycles$Design" "text" "[B"), (Jvm.Cond.lays "CircuitCycles$Design" "CircuitCycles$Design" "length" "I"), (Jvm.Cond.lays "CircuitCycles$Design" "CircuitCycles$Design" "moduleCount" "I"), (Jvm.Cond.lays "CircuitCycles$Design" "CircuitCycles$Design" "inputBits" "I"), (Jvm.Cond.lays "CircuitCycles$Design" "CircuitCycles$Design" "places" "[I"), (Jvm.Cond.lays "CircuitCycles$Design" "CircuitCycles$Design" "firstDecls" "[I"), (Jvm.Cond.lays "CircuitCycles$Design" "CircuitCycles$Design" "portCounts" "[I"), (Jvm.Cond.lays "CircuitCycles$Design" "CircuitCycles$Design" "firstChildren" "[I"), (Jvm.Cond.lays "CircuitCycles$Design" "CircuitCycles$Design" "firstPieces" "[I"), (Jvm.Cond.laysFinal "CircuitCycles$Design" "CircuitCycles$Design" "sums" "[[I"), (Jvm.Cond.lays "CircuitCycles$Design" "CircuitCycles$Design" "pieceCount" "I"), (Jvm.Cond.lays "CircuitCycles$Design" "CircuitCycles$Design" "pieceStarts" "[I"), (Jvm.Cond.lays "CircuitCycles$Design" "CircuitCycles$Design" "pieceStops" "[I"), (Jvm.Cond.lays "CircuitCycles$Design" "CircuitCycles$Design" "pieceAsserts" "[I")] : List Cond), w ∈ xw_G
  exact List.forall_mem_cons.mpr ⟨wn_3_48, List.forall_mem_cons.mpr ⟨wn_3_50, List.forall_mem_cons.mpr ⟨wn_3_52, List.forall_mem_cons.mpr ⟨wn_3_54, List.forall_mem_cons.mpr ⟨wn_3_56, List.forall_mem_cons.mpr ⟨wn_3_58, List.forall_mem_cons.mpr ⟨wn_3_60, List.forall_mem_cons.mpr ⟨wn_3_62, List.forall_mem_cons.mpr ⟨wn_3_64, List.forall_mem_cons.mpr ⟨wn_3_66, List.forall_mem_cons.mpr ⟨wn_3_68, List.forall_mem_cons.mpr ⟨wn_3_70, List.forall_mem_cons.mpr ⟨wn_3_72, List.forall_mem_cons.mpr ⟨wn_3_74, List.forall_mem_cons.mpr ⟨wn_3_76, List.forall_mem_cons.mpr ⟨wn_3_78, (List.forall_mem_nil _)⟩⟩⟩⟩⟩⟩⟩⟩⟩⟩⟩⟩⟩⟩⟩⟩
theorem in_Parts : ∀ w ∈ u_ws rn_Parts fn_Parts 18, w ∈ xw_G := by
  show ∀ w ∈ ([(Jvm.Cond.lays "CircuitCycles$Parts" "CircuitCycles$Parts" "declCount" "I"), (Jvm.Cond.lays "CircuitCycles$Parts" "CircuitCycles$Parts" "places" "[I"), (Jvm.Cond.lays "CircuitCycles$Parts" "CircuitCycles$Parts" "widths" "[I"), (Jvm.Cond.lays "CircuitCycles$Parts" "CircuitCycles$Parts" "sorts" "[I"), (Jvm.Cond.lays "CircuitCycles$Parts" "CircuitCycles$Parts" "firsts" "[J"), (Jvm.Cond.lays "CircuitCycles$Parts" "CircuitCycles$Parts" "names" "[I"), (Jvm.Cond.lays "CircuitCycles$Parts" "CircuitCycles$Parts" "setters" "[I"), (Jvm.Cond.lays "CircuitCycles$Parts" "CircuitCycles$Parts" "linkers" "[I"), (Jvm.Cond.lays "CircuitCycles$Parts" "CircuitCycles$Parts" "starts" "[I"), (Jvm.Cond.lays "CircuitCycles$Parts" "CircuitCycles$Parts" "stops" "[I"), (Jvm.Cond.lays "CircuitCycles$Parts" "CircuitCycles$Parts" "childCount" "I"), (Jvm.Cond.lays "CircuitCycles$Parts" "CircuitCycles$Parts" "childModules" "[I"), (Jvm.Cond.lays "CircuitCycles$Parts" "CircuitCycles$Parts" "childPlaces" "[I"), (Jvm.Cond.lays "CircuitCycles$Parts" "CircuitCycles$Parts" "firstLinks" "[I"), (Jvm.Cond.lays "CircuitCycles$Parts" "CircuitCycles$Parts" "linkCount" "I"), (Jvm.Cond.lays "CircuitCycles$Parts" "CircuitCycles$Parts" "linkPorts" "[I"), (Jvm.Cond.lays "CircuitCycles$Parts" "CircuitCycles$Parts" "linkStarts" "[I"), (Jvm.Cond.lays "CircuitCycles$Parts" "CircuitCycles$Parts" "linkStops" "[I")] : List Cond), w ∈ xw_G
  exact List.forall_mem_cons.mpr ⟨wn_2_182, List.forall_mem_cons.mpr ⟨wn_2_184, List.forall_mem_cons.mpr ⟨wn_2_186, List.forall_mem_cons.mpr ⟨wn_2_188, List.forall_mem_cons.mpr ⟨wn_2_190, List.forall_mem_cons.mpr ⟨wn_2_192, List.forall_mem_cons.mpr ⟨wn_2_194, List.forall_mem_cons.mpr ⟨wn_2_196, List.forall_mem_cons.mpr ⟨wn_2_198, List.forall_mem_cons.mpr ⟨wn_2_200, List.forall_mem_cons.mpr ⟨wn_2_202, List.forall_mem_cons.mpr ⟨wn_2_204, List.forall_mem_cons.mpr ⟨wn_2_206, List.forall_mem_cons.mpr ⟨wn_2_208, List.forall_mem_cons.mpr ⟨wn_2_210, List.forall_mem_cons.mpr ⟨wn_2_212, List.forall_mem_cons.mpr ⟨wn_2_214, List.forall_mem_cons.mpr ⟨wn_2_216, (List.forall_mem_nil _)⟩⟩⟩⟩⟩⟩⟩⟩⟩⟩⟩⟩⟩⟩⟩⟩⟩⟩
theorem in_Code : ∀ w ∈ u_ws rn_Code fn_Code 6, w ∈ xw_G := by
  show ∀ w ∈ ([(Jvm.Cond.lays "CircuitCycles$Code" "CircuitCycles$Code" "ops" "[I"), (Jvm.Cond.lays "CircuitCycles$Code" "CircuitCycles$Code" "args" "[I"), (Jvm.Cond.lays "CircuitCycles$Code" "CircuitCycles$Code" "size" "I"), (Jvm.Cond.lays "CircuitCycles$Code" "CircuitCycles$Code" "literalWidths" "[I"), (Jvm.Cond.lays "CircuitCycles$Code" "CircuitCycles$Code" "literals" "[J"), (Jvm.Cond.lays "CircuitCycles$Code" "CircuitCycles$Code" "literalCount" "I")] : List Cond), w ∈ xw_G
  exact List.forall_mem_cons.mpr ⟨wn_3_0, List.forall_mem_cons.mpr ⟨wn_3_2, List.forall_mem_cons.mpr ⟨wn_3_4, List.forall_mem_cons.mpr ⟨wn_3_6, List.forall_mem_cons.mpr ⟨wn_3_8, List.forall_mem_cons.mpr ⟨wn_3_10, (List.forall_mem_nil _)⟩⟩⟩⟩⟩⟩
def yn_C_count : MethodName := ⟨rn_C, "count", "(I)I"⟩
abbrev bn_C_count : ByteArray := prog_1_method_6_code
def yn_C_end : MethodName := ⟨rn_C, "end", "(I)V"⟩
abbrev bn_C_end : ByteArray := prog_1_method_3_code
def yn_C_failing : MethodName := ⟨rn_C, "failing", "()I"⟩
abbrev bn_C_failing : ByteArray := prog_1_method_13_code
def yn_C_find : MethodName := ⟨rn_C, "find", "()I"⟩
abbrev bn_C_find : ByteArray := prog_1_method_7_code
def yn_C_reset : MethodName := ⟨rn_C, "reset", "()V"⟩
abbrev bn_C_reset : ByteArray := prog_1_method_9_code
def yn_C_set : MethodName := ⟨rn_C, "set", "(II)V"⟩
abbrev bn_C_set : ByteArray := prog_1_method_10_code
def yn_C_signal : MethodName := ⟨rn_C, "signal", "(II)I"⟩
abbrev bn_C_signal : ByteArray := prog_1_method_8_code
def yn_C_step : MethodName := ⟨rn_C, "step", "()I"⟩
abbrev bn_C_step : ByteArray := prog_1_method_11_code
def yn_C_value : MethodName := ⟨rn_C, "value", "(I)J"⟩
abbrev bn_C_value : ByteArray := prog_1_method_12_code
def yn_L_count : MethodName := ⟨rn_L, "count", "(LCircuitCycles;I[J)I"⟩
abbrev bn_L_count : ByteArray := method_5_code
def yn_L_failing : MethodName := ⟨rn_L, "failing", "(LCircuitCycles;[J)I"⟩
abbrev bn_L_failing : ByteArray := method_12_code
def yn_L_find : MethodName := ⟨rn_L, "find", "(LCircuitCycles;[J)I"⟩
abbrev bn_L_find : ByteArray := method_6_code
def yn_L_reset : MethodName := ⟨rn_L, "reset", "(LCircuitCycles;)I"⟩
abbrev bn_L_reset : ByteArray := method_8_code
def yn_L_set : MethodName := ⟨rn_L, "set", "(LCircuitCycles;II)I"⟩
abbrev bn_L_set : ByteArray := method_9_code
def yn_L_signal : MethodName := ⟨rn_L, "signal", "(LCircuitCycles;II[J)I"⟩
abbrev bn_L_signal : ByteArray := method_7_code
def yn_L_step : MethodName := ⟨rn_L, "step", "(LCircuitCycles;[J)I"⟩
abbrev bn_L_step : ByteArray := method_10_code
def yn_L_value : MethodName := ⟨rn_L, "value", "(LCircuitCycles;I[J)I"⟩
abbrev bn_L_value : ByteArray := method_11_code
def yn_M_at : MethodName := ⟨rn_M, "at", "(I)I"⟩
abbrev bn_M_at : ByteArray := prog_14_method_3_code
def yn_M_count : MethodName := ⟨rn_M, "count", "(I)I"⟩
abbrev bn_M_count : ByteArray := prog_14_method_100_code
def yn_M_cutTokens : MethodName := ⟨rn_M, "cutTokens", "()V"⟩
abbrev bn_M_cutTokens : ByteArray := prog_14_method_16_code
def yn_M_designGrammar : MethodName := ⟨rn_M, "designGrammar", "()V"⟩
abbrev bn_M_designGrammar : ByteArray := prog_14_method_39_code
def yn_M_end : MethodName := ⟨rn_M, "end", "(I)V"⟩
abbrev bn_M_end : ByteArray := prog_14_method_98_code
def yn_M_fail : MethodName := ⟨rn_M, "fail", "(II)V"⟩
abbrev bn_M_fail : ByteArray := prog_14_method_19_code
def yn_M_failing : MethodName := ⟨rn_M, "failing", "()I"⟩
abbrev bn_M_failing : ByteArray := prog_14_method_110_code
def yn_M_fault : MethodName := ⟨rn_M, "fault", "()I"⟩
abbrev bn_M_fault : ByteArray := prog_14_method_99_code
def yn_M_feed : MethodName := ⟨rn_M, "feed", "(IIIII)I"⟩
abbrev bn_M_feed : ByteArray := prog_14_method_97_code
def yn_M_find : MethodName := ⟨rn_M, "find", "()I"⟩
abbrev bn_M_find : ByteArray := prog_14_method_103_code
def yn_M_init : MethodName := ⟨rn_M, "<init>", "()V"⟩
abbrev bn_M_init : ByteArray := prog_14_method_1_code
def yn_M_is : MethodName := ⟨rn_M, "is", "(I)Z"⟩
abbrev bn_M_is : ByteArray := prog_14_method_21_code
def yn_M_no : MethodName := ⟨rn_M, "no", "()V"⟩
abbrev bn_M_no : ByteArray := prog_14_method_22_code
def yn_M_open : MethodName := ⟨rn_M, "open", "(I)V"⟩
abbrev bn_M_open : ByteArray := prog_14_method_24_code
def yn_M_readSource : MethodName := ⟨rn_M, "readSource", "()V"⟩
abbrev bn_M_readSource : ByteArray := prog_14_method_82_code
def yn_M_read_I : MethodName := ⟨rn_M, "read", "()I"⟩
abbrev bn_M_read_I : ByteArray := prog_14_method_83_code
def yn_M_reset : MethodName := ⟨rn_M, "reset", "()V"⟩
abbrev bn_M_reset : ByteArray := prog_14_method_106_code
def yn_M_set : MethodName := ⟨rn_M, "set", "(II)V"⟩
abbrev bn_M_set : ByteArray := prog_14_method_107_code
def yn_M_shut : MethodName := ⟨rn_M, "shut", "(I)V"⟩
abbrev bn_M_shut : ByteArray := prog_14_method_25_code
def yn_M_signal : MethodName := ⟨rn_M, "signal", "(II)I"⟩
abbrev bn_M_signal : ByteArray := prog_14_method_105_code
def yn_M_skip : MethodName := ⟨rn_M, "skip", "(I)I"⟩
abbrev bn_M_skip : ByteArray := prog_14_method_7_code
def yn_M_step : MethodName := ⟨rn_M, "step", "()I"⟩
abbrev bn_M_step : ByteArray := prog_14_method_108_code
def yn_M_take : MethodName := ⟨rn_M, "take", "(I)V"⟩
abbrev bn_M_take : ByteArray := prog_14_method_23_code
def yn_M_thrown : MethodName := ⟨rn_M, "thrown", "()I"⟩
abbrev bn_M_thrown : ByteArray := prog_14_method_2_code
def yn_M_token : MethodName := ⟨rn_M, "token", "(III)V"⟩
abbrev bn_M_token : ByteArray := prog_14_method_15_code
def yn_M_value : MethodName := ⟨rn_M, "value", "(I)J"⟩
abbrev bn_M_value : ByteArray := prog_14_method_109_code
theorem sn_M_at : Cond.selects rn_M yn_M_at yn_M_at ∈ xw_G := xw_s5 (q := (yn_M_at, 91)) (List.mem_of_getElem? (i := 4) rfl)
theorem sn_M_cutTokens : Cond.selects rn_M yn_M_cutTokens yn_M_cutTokens ∈ xw_G := xw_s5 (q := (yn_M_cutTokens, 91)) (List.mem_of_getElem? (i := 2) rfl)
theorem sn_M_designGrammar : Cond.selects rn_M yn_M_designGrammar yn_M_designGrammar ∈ xw_G := xw_s5 (q := (yn_M_designGrammar, 91)) (List.mem_of_getElem? (i := 10) rfl)
theorem sn_M_fail : Cond.selects rn_M yn_M_fail yn_M_fail ∈ xw_G := xw_s5 (q := (yn_M_fail, 91)) (List.mem_of_getElem? (i := 13) rfl)
theorem sn_M_is : Cond.selects rn_M yn_M_is yn_M_is ∈ xw_G := xw_s5 (q := (yn_M_is, 91)) (List.mem_of_getElem? (i := 15) rfl)
theorem sn_M_no : Cond.selects rn_M yn_M_no yn_M_no ∈ xw_G := xw_s5 (q := (yn_M_no, 91)) (List.mem_of_getElem? (i := 12) rfl)
theorem sn_M_open : Cond.selects rn_M yn_M_open yn_M_open ∈ xw_G := xw_s5 (q := (yn_M_open, 91)) (List.mem_of_getElem? (i := 14) rfl)
theorem sn_M_readSource : Cond.selects rn_M yn_M_readSource yn_M_readSource ∈ xw_G := xw_s5 (q := (yn_M_readSource, 91)) (List.mem_of_getElem? (i := 1) rfl)
theorem sn_M_shut : Cond.selects rn_M yn_M_shut yn_M_shut ∈ xw_G := xw_s6 (q := (yn_M_shut, 91)) (List.mem_of_getElem? (i := 2) rfl)
theorem sn_M_skip : Cond.selects rn_M yn_M_skip yn_M_skip ∈ xw_G := xw_s5 (q := (yn_M_skip, 91)) (List.mem_of_getElem? (i := 3) rfl)
theorem sn_M_take : Cond.selects rn_M yn_M_take yn_M_take ∈ xw_G := xw_s5 (q := (yn_M_take, 91)) (List.mem_of_getElem? (i := 11) rfl)
theorem sn_M_token : Cond.selects rn_M yn_M_token yn_M_token ∈ xw_G := xw_s5 (q := (yn_M_token, 91)) (List.mem_of_getElem? (i := 5) rfl)
def fk_M (f : Nat → Value) : Prop := f 0 = .int 0 ∧ f 2 = .int 0 ∧ f 3 = .int 0 ∧ f 7 = .int 0 ∧ f 8 = .int 0 ∧ f 9 = .int 0 ∧ f 10 = .int 0 ∧ f 11 = .int 0 ∧ f 12 = .int 0 ∧ f 18 = .int 0 ∧ f 27 = .int 0 ∧ f 31 = .int 0 ∧ f 35 = .int 0 ∧ f 38 = .int 0 ∧ f 42 = .int 0 ∧ f 44 = .int 0 ∧ f 51 = .int 0 ∧ f 53 = .int 0 ∧ f 54 = .int 0 ∧ f 56 = .int 0 ∧ f 63 = .int 0 ∧ f 71 = .int 0 ∧ f 75 = .int 0 ∧ f 76 = .int 0 ∧ f 77 = .int 0 ∧ f 78 = .int 0 ∧ f 79 = .long 0 ∧ f 85 = .int 0 ∧ f 86 = .int 0 ∧ f 87 = .int 0 ∧ f 88 = .int 0 ∧ f 89 = .int 0
theorem dn_C_count_0 : decode bn_C_count 0 = .ok (.aload_n 0, 1) := by decide +kernel
theorem dn_C_count_1 : decode bn_C_count 1 = .ok (.getfield 64, 3) := by decide +kernel
theorem dn_C_count_4 : decode bn_C_count 4 = .ok (.ifnonnull 11, 3) := by decide +kernel
theorem dn_C_count_7 : decode bn_C_count 7 = .ok (.new 153, 3) := by decide +kernel
theorem dn_C_count_10 : decode bn_C_count 10 = .ok (.dup, 1) := by decide +kernel
theorem dn_C_count_11 : decode bn_C_count 11 = .ok (.invokespecial 155, 3) := by decide +kernel
theorem dn_C_count_14 : decode bn_C_count 14 = .ok (.athrow, 1) := by decide +kernel
theorem dn_C_end_0 : decode bn_C_end 0 = .ok (.iload_n 1, 1) := by decide +kernel
theorem dn_C_end_1 : decode bn_C_end 1 = .ok (.ifCond .lt 11, 3) := by decide +kernel
theorem dn_C_end_4 : decode bn_C_end 4 = .ok (.iload_n 1, 1) := by decide +kernel
theorem dn_C_end_5 : decode bn_C_end 5 = .ok (.aload_n 0, 1) := by decide +kernel
theorem dn_C_end_6 : decode bn_C_end 6 = .ok (.getfield 74, 3) := by decide +kernel
theorem dn_C_end_9 : decode bn_C_end 9 = .ok (.if_icmp .le 11, 3) := by decide +kernel
theorem dn_C_end_12 : decode bn_C_end 12 = .ok (.new 98, 3) := by decide +kernel
theorem dn_C_end_15 : decode bn_C_end 15 = .ok (.dup, 1) := by decide +kernel
theorem dn_C_end_16 : decode bn_C_end 16 = .ok (.invokespecial 100, 3) := by decide +kernel
theorem dn_C_end_19 : decode bn_C_end 19 = .ok (.athrow, 1) := by decide +kernel
theorem dn_C_failing_0 : decode bn_C_failing 0 = .ok (.aload_n 0, 1) := by decide +kernel
theorem dn_C_failing_1 : decode bn_C_failing 1 = .ok (.getfield 64, 3) := by decide +kernel
theorem dn_C_failing_4 : decode bn_C_failing 4 = .ok (.ifnonnull 11, 3) := by decide +kernel
theorem dn_C_failing_7 : decode bn_C_failing 7 = .ok (.new 153, 3) := by decide +kernel
theorem dn_C_failing_10 : decode bn_C_failing 10 = .ok (.dup, 1) := by decide +kernel
theorem dn_C_failing_11 : decode bn_C_failing 11 = .ok (.invokespecial 155, 3) := by decide +kernel
theorem dn_C_failing_14 : decode bn_C_failing 14 = .ok (.athrow, 1) := by decide +kernel
theorem dn_C_find_0 : decode bn_C_find 0 = .ok (.aload_n 0, 1) := by decide +kernel
theorem dn_C_find_1 : decode bn_C_find 1 = .ok (.getfield 64, 3) := by decide +kernel
theorem dn_C_find_4 : decode bn_C_find 4 = .ok (.ifnonnull 11, 3) := by decide +kernel
theorem dn_C_find_7 : decode bn_C_find 7 = .ok (.new 153, 3) := by decide +kernel
theorem dn_C_find_10 : decode bn_C_find 10 = .ok (.dup, 1) := by decide +kernel
theorem dn_C_find_11 : decode bn_C_find 11 = .ok (.invokespecial 155, 3) := by decide +kernel
theorem dn_C_find_14 : decode bn_C_find 14 = .ok (.athrow, 1) := by decide +kernel
theorem dn_C_reset_0 : decode bn_C_reset 0 = .ok (.aload_n 0, 1) := by decide +kernel
theorem dn_C_reset_1 : decode bn_C_reset 1 = .ok (.getfield 64, 3) := by decide +kernel
theorem dn_C_reset_4 : decode bn_C_reset 4 = .ok (.ifnonnull 11, 3) := by decide +kernel
theorem dn_C_reset_7 : decode bn_C_reset 7 = .ok (.new 153, 3) := by decide +kernel
theorem dn_C_reset_10 : decode bn_C_reset 10 = .ok (.dup, 1) := by decide +kernel
theorem dn_C_reset_11 : decode bn_C_reset 11 = .ok (.invokespecial 155, 3) := by decide +kernel
theorem dn_C_reset_14 : decode bn_C_reset 14 = .ok (.athrow, 1) := by decide +kernel
theorem dn_C_set_0 : decode bn_C_set 0 = .ok (.aload_n 0, 1) := by decide +kernel
theorem dn_C_set_1 : decode bn_C_set 1 = .ok (.getfield 64, 3) := by decide +kernel
theorem dn_C_set_4 : decode bn_C_set 4 = .ok (.ifnonnull 11, 3) := by decide +kernel
theorem dn_C_set_7 : decode bn_C_set 7 = .ok (.new 153, 3) := by decide +kernel
theorem dn_C_set_10 : decode bn_C_set 10 = .ok (.dup, 1) := by decide +kernel
theorem dn_C_set_11 : decode bn_C_set 11 = .ok (.invokespecial 155, 3) := by decide +kernel
theorem dn_C_set_14 : decode bn_C_set 14 = .ok (.athrow, 1) := by decide +kernel
theorem dn_C_signal_0 : decode bn_C_signal 0 = .ok (.aload_n 0, 1) := by decide +kernel
theorem dn_C_signal_1 : decode bn_C_signal 1 = .ok (.getfield 64, 3) := by decide +kernel
theorem dn_C_signal_4 : decode bn_C_signal 4 = .ok (.ifnonnull 11, 3) := by decide +kernel
theorem dn_C_signal_7 : decode bn_C_signal 7 = .ok (.new 153, 3) := by decide +kernel
theorem dn_C_signal_10 : decode bn_C_signal 10 = .ok (.dup, 1) := by decide +kernel
theorem dn_C_signal_11 : decode bn_C_signal 11 = .ok (.invokespecial 155, 3) := by decide +kernel
theorem dn_C_signal_14 : decode bn_C_signal 14 = .ok (.athrow, 1) := by decide +kernel
theorem dn_C_step_0 : decode bn_C_step 0 = .ok (.aload_n 0, 1) := by decide +kernel
theorem dn_C_step_1 : decode bn_C_step 1 = .ok (.getfield 64, 3) := by decide +kernel
theorem dn_C_step_4 : decode bn_C_step 4 = .ok (.ifnonnull 11, 3) := by decide +kernel
theorem dn_C_step_7 : decode bn_C_step 7 = .ok (.new 153, 3) := by decide +kernel
theorem dn_C_step_10 : decode bn_C_step 10 = .ok (.dup, 1) := by decide +kernel
theorem dn_C_step_11 : decode bn_C_step 11 = .ok (.invokespecial 155, 3) := by decide +kernel
theorem dn_C_step_14 : decode bn_C_step 14 = .ok (.athrow, 1) := by decide +kernel
theorem dn_C_value_0 : decode bn_C_value 0 = .ok (.aload_n 0, 1) := by decide +kernel
theorem dn_C_value_1 : decode bn_C_value 1 = .ok (.getfield 64, 3) := by decide +kernel
theorem dn_C_value_4 : decode bn_C_value 4 = .ok (.ifnonnull 11, 3) := by decide +kernel
theorem dn_C_value_7 : decode bn_C_value 7 = .ok (.new 153, 3) := by decide +kernel
theorem dn_C_value_10 : decode bn_C_value 10 = .ok (.dup, 1) := by decide +kernel
theorem dn_C_value_11 : decode bn_C_value 11 = .ok (.invokespecial 155, 3) := by decide +kernel
theorem dn_C_value_14 : decode bn_C_value 14 = .ok (.athrow, 1) := by decide +kernel
theorem dn_L_count_0 : decode bn_L_count 0 = .ok (.aload_n 2, 1) := by decide +kernel
theorem dn_L_count_1 : decode bn_L_count 1 = .ok (.iconst 0, 1) := by decide +kernel
theorem dn_L_count_2 : decode bn_L_count 2 = .ok (.aload_n 0, 1) := by decide +kernel
theorem dn_L_count_3 : decode bn_L_count 3 = .ok (.iload_n 1, 1) := by decide +kernel
theorem dn_L_count_4 : decode bn_L_count 4 = .ok (.invokevirtual 21, 3) := by decide +kernel
theorem dn_L_count_12 : decode bn_L_count 12 = .ok (.astore_n 3, 1) := by decide +kernel
theorem dn_L_count_13 : decode bn_L_count 13 = .ok (.iconst 1, 1) := by decide +kernel
theorem dn_L_count_14 : decode bn_L_count 14 = .ok (.ireturn, 1) := by decide +kernel
theorem dn_L_failing_0 : decode bn_L_failing 0 = .ok (.aload_n 1, 1) := by decide +kernel
theorem dn_L_failing_1 : decode bn_L_failing 1 = .ok (.iconst 0, 1) := by decide +kernel
theorem dn_L_failing_2 : decode bn_L_failing 2 = .ok (.aload_n 0, 1) := by decide +kernel
theorem dn_L_failing_3 : decode bn_L_failing 3 = .ok (.invokevirtual 51, 3) := by decide +kernel
theorem dn_L_failing_11 : decode bn_L_failing 11 = .ok (.astore_n 2, 1) := by decide +kernel
theorem dn_L_failing_12 : decode bn_L_failing 12 = .ok (.iconst 1, 1) := by decide +kernel
theorem dn_L_failing_13 : decode bn_L_failing 13 = .ok (.ireturn, 1) := by decide +kernel
theorem dn_L_find_0 : decode bn_L_find 0 = .ok (.aload_n 1, 1) := by decide +kernel
theorem dn_L_find_1 : decode bn_L_find 1 = .ok (.iconst 0, 1) := by decide +kernel
theorem dn_L_find_2 : decode bn_L_find 2 = .ok (.aload_n 0, 1) := by decide +kernel
theorem dn_L_find_3 : decode bn_L_find 3 = .ok (.invokevirtual 27, 3) := by decide +kernel
theorem dn_L_find_11 : decode bn_L_find 11 = .ok (.astore_n 2, 1) := by decide +kernel
theorem dn_L_find_12 : decode bn_L_find 12 = .ok (.iconst 1, 1) := by decide +kernel
theorem dn_L_find_13 : decode bn_L_find 13 = .ok (.ireturn, 1) := by decide +kernel
theorem dn_L_reset_0 : decode bn_L_reset 0 = .ok (.aload_n 0, 1) := by decide +kernel
theorem dn_L_reset_1 : decode bn_L_reset 1 = .ok (.invokevirtual 37, 3) := by decide +kernel
theorem dn_L_reset_7 : decode bn_L_reset 7 = .ok (.astore_n 1, 1) := by decide +kernel
theorem dn_L_reset_8 : decode bn_L_reset 8 = .ok (.iconst 1, 1) := by decide +kernel
theorem dn_L_reset_9 : decode bn_L_reset 9 = .ok (.ireturn, 1) := by decide +kernel
theorem dn_L_set_0 : decode bn_L_set 0 = .ok (.aload_n 0, 1) := by decide +kernel
theorem dn_L_set_1 : decode bn_L_set 1 = .ok (.iload_n 1, 1) := by decide +kernel
theorem dn_L_set_2 : decode bn_L_set 2 = .ok (.iload_n 2, 1) := by decide +kernel
theorem dn_L_set_3 : decode bn_L_set 3 = .ok (.invokevirtual 40, 3) := by decide +kernel
theorem dn_L_set_9 : decode bn_L_set 9 = .ok (.astore_n 3, 1) := by decide +kernel
theorem dn_L_set_10 : decode bn_L_set 10 = .ok (.iconst 1, 1) := by decide +kernel
theorem dn_L_set_11 : decode bn_L_set 11 = .ok (.ireturn, 1) := by decide +kernel
theorem dn_L_signal_0 : decode bn_L_signal 0 = .ok (.aload_n 3, 1) := by decide +kernel
theorem dn_L_signal_1 : decode bn_L_signal 1 = .ok (.iconst 0, 1) := by decide +kernel
theorem dn_L_signal_2 : decode bn_L_signal 2 = .ok (.aload_n 0, 1) := by decide +kernel
theorem dn_L_signal_3 : decode bn_L_signal 3 = .ok (.iload_n 1, 1) := by decide +kernel
theorem dn_L_signal_4 : decode bn_L_signal 4 = .ok (.iload_n 2, 1) := by decide +kernel
theorem dn_L_signal_5 : decode bn_L_signal 5 = .ok (.invokevirtual 31, 3) := by decide +kernel
theorem dn_L_signal_13 : decode bn_L_signal 13 = .ok (.astore 4, 2) := by decide +kernel
theorem dn_L_signal_15 : decode bn_L_signal 15 = .ok (.iconst 1, 1) := by decide +kernel
theorem dn_L_signal_16 : decode bn_L_signal 16 = .ok (.ireturn, 1) := by decide +kernel
theorem dn_L_step_0 : decode bn_L_step 0 = .ok (.aload_n 1, 1) := by decide +kernel
theorem dn_L_step_1 : decode bn_L_step 1 = .ok (.iconst 0, 1) := by decide +kernel
theorem dn_L_step_2 : decode bn_L_step 2 = .ok (.aload_n 0, 1) := by decide +kernel
theorem dn_L_step_3 : decode bn_L_step 3 = .ok (.invokevirtual 44, 3) := by decide +kernel
theorem dn_L_step_11 : decode bn_L_step 11 = .ok (.astore_n 2, 1) := by decide +kernel
theorem dn_L_step_12 : decode bn_L_step 12 = .ok (.iconst 1, 1) := by decide +kernel
theorem dn_L_step_13 : decode bn_L_step 13 = .ok (.ireturn, 1) := by decide +kernel
theorem dn_L_value_0 : decode bn_L_value 0 = .ok (.aload_n 2, 1) := by decide +kernel
theorem dn_L_value_1 : decode bn_L_value 1 = .ok (.iconst 0, 1) := by decide +kernel
theorem dn_L_value_2 : decode bn_L_value 2 = .ok (.aload_n 0, 1) := by decide +kernel
theorem dn_L_value_3 : decode bn_L_value 3 = .ok (.iload_n 1, 1) := by decide +kernel
theorem dn_L_value_4 : decode bn_L_value 4 = .ok (.invokevirtual 47, 3) := by decide +kernel
theorem dn_L_value_11 : decode bn_L_value 11 = .ok (.astore_n 3, 1) := by decide +kernel
theorem dn_L_value_12 : decode bn_L_value 12 = .ok (.iconst 1, 1) := by decide +kernel
theorem dn_L_value_13 : decode bn_L_value 13 = .ok (.ireturn, 1) := by decide +kernel
theorem dn_M_at_0 : decode bn_M_at 0 = .ok (.iload_n 1, 1) := by decide +kernel
theorem dn_M_at_1 : decode bn_M_at 1 = .ok (.aload_n 0, 1) := by decide +kernel
theorem dn_M_at_2 : decode bn_M_at 2 = .ok (.getfield 196, 3) := by decide +kernel
theorem dn_M_at_5 : decode bn_M_at 5 = .ok (.if_icmp .ge 16, 3) := by decide +kernel
theorem dn_M_at_21 : decode bn_M_at 21 = .ok (.iconst (-1), 1) := by decide +kernel
theorem dn_M_at_22 : decode bn_M_at 22 = .ok (.ireturn, 1) := by decide +kernel
theorem dn_M_count_0 : decode bn_M_count 0 = .ok (.aload_n 0, 1) := by decide +kernel
theorem dn_M_count_1 : decode bn_M_count 1 = .ok (.aload_n 0, 1) := by decide +kernel
theorem dn_M_count_2 : decode bn_M_count 2 = .ok (.getfield 545, 3) := by decide +kernel
theorem dn_M_count_5 : decode bn_M_count 5 = .ok (.ifCond .ne 7, 3) := by decide +kernel
theorem dn_M_count_8 : decode bn_M_count 8 = .ok (.iconst 1, 1) := by decide +kernel
theorem dn_M_count_9 : decode bn_M_count 9 = .ok (.goto 18, 3) := by decide +kernel
theorem dn_M_count_27 : decode bn_M_count 27 = .ok (.putfield 192, 3) := by decide +kernel
theorem dn_M_count_30 : decode bn_M_count 30 = .ok (.aload_n 0, 1) := by decide +kernel
theorem dn_M_count_31 : decode bn_M_count 31 = .ok (.getfield 192, 3) := by decide +kernel
theorem dn_M_count_34 : decode bn_M_count 34 = .ok (.ifCond .le 5, 3) := by decide +kernel
theorem dn_M_count_37 : decode bn_M_count 37 = .ok (.iconst 0, 1) := by decide +kernel
theorem dn_M_count_38 : decode bn_M_count 38 = .ok (.ireturn, 1) := by decide +kernel
theorem dn_M_cutTokens_0 : decode bn_M_cutTokens 0 = .ok (.aload_n 0, 1) := by decide +kernel
theorem dn_M_cutTokens_1 : decode bn_M_cutTokens 1 = .ok (.iconst 0, 1) := by decide +kernel
theorem dn_M_cutTokens_2 : decode bn_M_cutTokens 2 = .ok (.putfield 231, 3) := by decide +kernel
theorem dn_M_cutTokens_5 : decode bn_M_cutTokens 5 = .ok (.iconst 0, 1) := by decide +kernel
theorem dn_M_cutTokens_6 : decode bn_M_cutTokens 6 = .ok (.istore_n 1, 1) := by decide +kernel
theorem dn_M_cutTokens_7 : decode bn_M_cutTokens 7 = .ok (.aload_n 0, 1) := by decide +kernel
theorem dn_M_cutTokens_8 : decode bn_M_cutTokens 8 = .ok (.iload_n 1, 1) := by decide +kernel
theorem dn_M_cutTokens_9 : decode bn_M_cutTokens 9 = .ok (.invokevirtual 234, 3) := by decide +kernel
theorem dn_M_cutTokens_12 : decode bn_M_cutTokens 12 = .ok (.istore_n 2, 1) := by decide +kernel
theorem dn_M_cutTokens_13 : decode bn_M_cutTokens 13 = .ok (.iload_n 2, 1) := by decide +kernel
theorem dn_M_cutTokens_14 : decode bn_M_cutTokens 14 = .ok (.ifCond .ge 18, 3) := by decide +kernel
theorem dn_M_cutTokens_32 : decode bn_M_cutTokens 32 = .ok (.iload_n 2, 1) := by decide +kernel
theorem dn_M_cutTokens_33 : decode bn_M_cutTokens 33 = .ok (.aload_n 0, 1) := by decide +kernel
theorem dn_M_cutTokens_34 : decode bn_M_cutTokens 34 = .ok (.getfield 196, 3) := by decide +kernel
theorem dn_M_cutTokens_37 : decode bn_M_cutTokens 37 = .ok (.if_icmp .lt 19, 3) := by decide +kernel
theorem dn_M_cutTokens_40 : decode bn_M_cutTokens 40 = .ok (.aload_n 0, 1) := by decide +kernel
theorem dn_M_cutTokens_41 : decode bn_M_cutTokens 41 = .ok (.sipush 403, 3) := by decide +kernel
theorem dn_M_cutTokens_44 : decode bn_M_cutTokens 44 = .ok (.aload_n 0, 1) := by decide +kernel
theorem dn_M_cutTokens_45 : decode bn_M_cutTokens 45 = .ok (.getfield 196, 3) := by decide +kernel
theorem dn_M_cutTokens_48 : decode bn_M_cutTokens 48 = .ok (.aload_n 0, 1) := by decide +kernel
theorem dn_M_cutTokens_49 : decode bn_M_cutTokens 49 = .ok (.getfield 196, 3) := by decide +kernel
theorem dn_M_cutTokens_52 : decode bn_M_cutTokens 52 = .ok (.invokevirtual 237, 3) := by decide +kernel
theorem dn_M_cutTokens_55 : decode bn_M_cutTokens 55 = .ok (.return_, 1) := by decide +kernel
theorem dn_M_designGrammar_0 : decode bn_M_designGrammar 0 = .ok (.aload_n 0, 1) := by decide +kernel
theorem dn_M_designGrammar_1 : decode bn_M_designGrammar 1 = .ok (.iconst 0, 1) := by decide +kernel
theorem dn_M_designGrammar_2 : decode bn_M_designGrammar 2 = .ok (.putfield 263, 3) := by decide +kernel
theorem dn_M_designGrammar_5 : decode bn_M_designGrammar 5 = .ok (.aload_n 0, 1) := by decide +kernel
theorem dn_M_designGrammar_6 : decode bn_M_designGrammar 6 = .ok (.iconst 0, 1) := by decide +kernel
theorem dn_M_designGrammar_7 : decode bn_M_designGrammar 7 = .ok (.putfield 276, 3) := by decide +kernel
theorem dn_M_designGrammar_10 : decode bn_M_designGrammar 10 = .ok (.iconst 1, 1) := by decide +kernel
theorem dn_M_designGrammar_11 : decode bn_M_designGrammar 11 = .ok (.istore_n 1, 1) := by decide +kernel
theorem dn_M_designGrammar_12 : decode bn_M_designGrammar 12 = .ok (.iload_n 1, 1) := by decide +kernel
theorem dn_M_designGrammar_13 : decode bn_M_designGrammar 13 = .ok (.ifCond .eq 149, 3) := by decide +kernel
theorem dn_M_designGrammar_16 : decode bn_M_designGrammar 16 = .ok (.aload_n 0, 1) := by decide +kernel
theorem dn_M_designGrammar_17 : decode bn_M_designGrammar 17 = .ok (.getfield 257, 3) := by decide +kernel
theorem dn_M_designGrammar_20 : decode bn_M_designGrammar 20 = .ok (.ifCond .ne 142, 3) := by decide +kernel
theorem dn_M_designGrammar_23 : decode bn_M_designGrammar 23 = .ok (.aload_n 0, 1) := by decide +kernel
theorem dn_M_designGrammar_24 : decode bn_M_designGrammar 24 = .ok (.sipush 300, 3) := by decide +kernel
theorem dn_M_designGrammar_27 : decode bn_M_designGrammar 27 = .ok (.invokevirtual 279, 3) := by decide +kernel
theorem dn_M_designGrammar_30 : decode bn_M_designGrammar 30 = .ok (.aload_n 0, 1) := by decide +kernel
theorem dn_M_designGrammar_31 : decode bn_M_designGrammar 31 = .ok (.sipush 400, 3) := by decide +kernel
theorem dn_M_designGrammar_34 : decode bn_M_designGrammar 34 = .ok (.invokevirtual 279, 3) := by decide +kernel
theorem dn_M_designGrammar_37 : decode bn_M_designGrammar 37 = .ok (.aload_n 0, 1) := by decide +kernel
theorem dn_M_designGrammar_38 : decode bn_M_designGrammar 38 = .ok (.bipush 40, 2) := by decide +kernel
theorem dn_M_designGrammar_40 : decode bn_M_designGrammar 40 = .ok (.invokevirtual 293, 3) := by decide +kernel
theorem dn_M_designGrammar_43 : decode bn_M_designGrammar 43 = .ok (.aload_n 0, 1) := by decide +kernel
theorem dn_M_designGrammar_44 : decode bn_M_designGrammar 44 = .ok (.sipush 302, 3) := by decide +kernel
theorem dn_M_designGrammar_47 : decode bn_M_designGrammar 47 = .ok (.invokevirtual 273, 3) := by decide +kernel
theorem dn_M_designGrammar_50 : decode bn_M_designGrammar 50 = .ok (.ifCond .ne 13, 3) := by decide +kernel
theorem dn_M_designGrammar_53 : decode bn_M_designGrammar 53 = .ok (.aload_n 0, 1) := by decide +kernel
theorem dn_M_designGrammar_54 : decode bn_M_designGrammar 54 = .ok (.sipush 303, 3) := by decide +kernel
theorem dn_M_designGrammar_57 : decode bn_M_designGrammar 57 = .ok (.invokevirtual 273, 3) := by decide +kernel
theorem dn_M_designGrammar_60 : decode bn_M_designGrammar 60 = .ok (.ifCond .eq 33, 3) := by decide +kernel
theorem dn_M_designGrammar_93 : decode bn_M_designGrammar 93 = .ok (.aload_n 0, 1) := by decide +kernel
theorem dn_M_designGrammar_94 : decode bn_M_designGrammar 94 = .ok (.bipush 41, 2) := by decide +kernel
theorem dn_M_designGrammar_96 : decode bn_M_designGrammar 96 = .ok (.invokevirtual 305, 3) := by decide +kernel
theorem dn_M_designGrammar_99 : decode bn_M_designGrammar 99 = .ok (.aload_n 0, 1) := by decide +kernel
theorem dn_M_designGrammar_100 : decode bn_M_designGrammar 100 = .ok (.bipush 59, 2) := by decide +kernel
theorem dn_M_designGrammar_102 : decode bn_M_designGrammar 102 = .ok (.invokevirtual 279, 3) := by decide +kernel
theorem dn_M_designGrammar_105 : decode bn_M_designGrammar 105 = .ok (.aload_n 0, 1) := by decide +kernel
theorem dn_M_designGrammar_106 : decode bn_M_designGrammar 106 = .ok (.getfield 257, 3) := by decide +kernel
theorem dn_M_designGrammar_109 : decode bn_M_designGrammar 109 = .ok (.ifCond .ne 20, 3) := by decide +kernel
theorem dn_M_designGrammar_129 : decode bn_M_designGrammar 129 = .ok (.aload_n 0, 1) := by decide +kernel
theorem dn_M_designGrammar_130 : decode bn_M_designGrammar 130 = .ok (.sipush 301, 3) := by decide +kernel
theorem dn_M_designGrammar_133 : decode bn_M_designGrammar 133 = .ok (.invokevirtual 279, 3) := by decide +kernel
theorem dn_M_designGrammar_136 : decode bn_M_designGrammar 136 = .ok (.aload_n 0, 1) := by decide +kernel
theorem dn_M_designGrammar_137 : decode bn_M_designGrammar 137 = .ok (.getfield 257, 3) := by decide +kernel
theorem dn_M_designGrammar_140 : decode bn_M_designGrammar 140 = .ok (.ifCond .ne 17, 3) := by decide +kernel
theorem dn_M_designGrammar_157 : decode bn_M_designGrammar 157 = .ok (.iconst 0, 1) := by decide +kernel
theorem dn_M_designGrammar_158 : decode bn_M_designGrammar 158 = .ok (.istore_n 1, 1) := by decide +kernel
theorem dn_M_designGrammar_159 : decode bn_M_designGrammar 159 = .ok (.goto (-147), 3) := by decide +kernel
theorem dn_M_designGrammar_162 : decode bn_M_designGrammar 162 = .ok (.return_, 1) := by decide +kernel
theorem dn_M_end_0 : decode bn_M_end 0 = .ok (.aload_n 0, 1) := by decide +kernel
theorem dn_M_end_1 : decode bn_M_end 1 = .ok (.iload_n 1, 1) := by decide +kernel
theorem dn_M_end_2 : decode bn_M_end 2 = .ok (.ifCond .lt 11, 3) := by decide +kernel
theorem dn_M_end_5 : decode bn_M_end 5 = .ok (.iload_n 1, 1) := by decide +kernel
theorem dn_M_end_6 : decode bn_M_end 6 = .ok (.aload_n 0, 1) := by decide +kernel
theorem dn_M_end_7 : decode bn_M_end 7 = .ok (.getfield 536, 3) := by decide +kernel
theorem dn_M_end_10 : decode bn_M_end 10 = .ok (.if_icmp .le 7, 3) := by decide +kernel
theorem dn_M_end_13 : decode bn_M_end 13 = .ok (.iconst 1, 1) := by decide +kernel
theorem dn_M_end_14 : decode bn_M_end 14 = .ok (.goto 4, 3) := by decide +kernel
theorem dn_M_end_17 : decode bn_M_end 17 = .ok (.iconst 0, 1) := by decide +kernel
theorem dn_M_end_18 : decode bn_M_end 18 = .ok (.putfield 192, 3) := by decide +kernel
theorem dn_M_end_21 : decode bn_M_end 21 = .ok (.aload_n 0, 1) := by decide +kernel
theorem dn_M_end_22 : decode bn_M_end 22 = .ok (.aload_n 0, 1) := by decide +kernel
theorem dn_M_end_23 : decode bn_M_end 23 = .ok (.getfield 192, 3) := by decide +kernel
theorem dn_M_end_26 : decode bn_M_end 26 = .ok (.ifCond .le 10, 3) := by decide +kernel
theorem dn_M_end_29 : decode bn_M_end 29 = .ok (.aload_n 0, 1) := by decide +kernel
theorem dn_M_end_30 : decode bn_M_end 30 = .ok (.getfield 536, 3) := by decide +kernel
theorem dn_M_end_33 : decode bn_M_end 33 = .ok (.goto 4, 3) := by decide +kernel
theorem dn_M_end_36 : decode bn_M_end 36 = .ok (.iload_n 1, 1) := by decide +kernel
theorem dn_M_end_37 : decode bn_M_end 37 = .ok (.putfield 536, 3) := by decide +kernel
theorem dn_M_end_40 : decode bn_M_end 40 = .ok (.return_, 1) := by decide +kernel
theorem dn_M_fail_0 : decode bn_M_fail 0 = .ok (.aload_n 0, 1) := by decide +kernel
theorem dn_M_fail_1 : decode bn_M_fail 1 = .ok (.getfield 257, 3) := by decide +kernel
theorem dn_M_fail_4 : decode bn_M_fail 4 = .ok (.ifCond .ne 13, 3) := by decide +kernel
theorem dn_M_fail_7 : decode bn_M_fail 7 = .ok (.aload_n 0, 1) := by decide +kernel
theorem dn_M_fail_8 : decode bn_M_fail 8 = .ok (.iload_n 1, 1) := by decide +kernel
theorem dn_M_fail_9 : decode bn_M_fail 9 = .ok (.putfield 257, 3) := by decide +kernel
theorem dn_M_fail_12 : decode bn_M_fail 12 = .ok (.aload_n 0, 1) := by decide +kernel
theorem dn_M_fail_13 : decode bn_M_fail 13 = .ok (.iload_n 2, 1) := by decide +kernel
theorem dn_M_fail_14 : decode bn_M_fail 14 = .ok (.putfield 260, 3) := by decide +kernel
theorem dn_M_fail_17 : decode bn_M_fail 17 = .ok (.return_, 1) := by decide +kernel
theorem dn_M_failing_0 : decode bn_M_failing 0 = .ok (.aload_n 0, 1) := by decide +kernel
theorem dn_M_failing_1 : decode bn_M_failing 1 = .ok (.aload_n 0, 1) := by decide +kernel
theorem dn_M_failing_2 : decode bn_M_failing 2 = .ok (.getfield 545, 3) := by decide +kernel
theorem dn_M_failing_5 : decode bn_M_failing 5 = .ok (.ifCond .eq 7, 3) := by decide +kernel
theorem dn_M_failing_12 : decode bn_M_failing 12 = .ok (.iconst 1, 1) := by decide +kernel
theorem dn_M_failing_13 : decode bn_M_failing 13 = .ok (.putfield 192, 3) := by decide +kernel
theorem dn_M_failing_16 : decode bn_M_failing 16 = .ok (.aload_n 0, 1) := by decide +kernel
theorem dn_M_failing_17 : decode bn_M_failing 17 = .ok (.getfield 192, 3) := by decide +kernel
theorem dn_M_failing_20 : decode bn_M_failing 20 = .ok (.ifCond .le 7, 3) := by decide +kernel
theorem dn_M_failing_23 : decode bn_M_failing 23 = .ok (.iconst 0, 1) := by decide +kernel
theorem dn_M_failing_24 : decode bn_M_failing 24 = .ok (.goto 7, 3) := by decide +kernel
theorem dn_M_failing_31 : decode bn_M_failing 31 = .ok (.ireturn, 1) := by decide +kernel
theorem dn_M_fault_0 : decode bn_M_fault 0 = .ok (.aload_n 0, 1) := by decide +kernel
theorem dn_M_fault_1 : decode bn_M_fault 1 = .ok (.iconst 0, 1) := by decide +kernel
theorem dn_M_fault_2 : decode bn_M_fault 2 = .ok (.putfield 192, 3) := by decide +kernel
theorem dn_M_fault_5 : decode bn_M_fault 5 = .ok (.aload_n 0, 1) := by decide +kernel
theorem dn_M_fault_6 : decode bn_M_fault 6 = .ok (.getfield 542, 3) := by decide +kernel
theorem dn_M_fault_9 : decode bn_M_fault 9 = .ok (.ireturn, 1) := by decide +kernel
theorem dn_M_feed_0 : decode bn_M_feed 0 = .ok (.aload_n 0, 1) := by decide +kernel
theorem dn_M_feed_1 : decode bn_M_feed 1 = .ok (.aload_n 0, 1) := by decide +kernel
theorem dn_M_feed_2 : decode bn_M_feed 2 = .ok (.getfield 536, 3) := by decide +kernel
theorem dn_M_feed_5 : decode bn_M_feed 5 = .ok (.bipush 20, 2) := by decide +kernel
theorem dn_M_feed_7 : decode bn_M_feed 7 = .ok (.iadd, 1) := by decide +kernel
theorem dn_M_feed_8 : decode bn_M_feed 8 = .ok (.aload_n 0, 1) := by decide +kernel
theorem dn_M_feed_9 : decode bn_M_feed 9 = .ok (.getfield 8, 3) := by decide +kernel
theorem dn_M_feed_12 : decode bn_M_feed 12 = .ok (.arraylength, 1) := by decide +kernel
theorem dn_M_feed_13 : decode bn_M_feed 13 = .ok (.if_icmp .le 7, 3) := by decide +kernel
theorem dn_M_feed_20 : decode bn_M_feed 20 = .ok (.iconst 0, 1) := by decide +kernel
theorem dn_M_feed_21 : decode bn_M_feed 21 = .ok (.putfield 192, 3) := by decide +kernel
theorem dn_M_feed_24 : decode bn_M_feed 24 = .ok (.aload_n 0, 1) := by decide +kernel
theorem dn_M_feed_25 : decode bn_M_feed 25 = .ok (.getfield 192, 3) := by decide +kernel
theorem dn_M_feed_28 : decode bn_M_feed 28 = .ok (.ifCond .le 5, 3) := by decide +kernel
theorem dn_M_feed_33 : decode bn_M_feed 33 = .ok (.iconst 0, 1) := by decide +kernel
theorem dn_M_feed_34 : decode bn_M_feed 34 = .ok (.istore 6, 2) := by decide +kernel
theorem dn_M_feed_36 : decode bn_M_feed 36 = .ok (.iload 6, 2) := by decide +kernel
theorem dn_M_feed_38 : decode bn_M_feed 38 = .ok (.bipush 20, 2) := by decide +kernel
theorem dn_M_feed_40 : decode bn_M_feed 40 = .ok (.if_icmp .ge 83, 3) := by decide +kernel
theorem dn_M_feed_43 : decode bn_M_feed 43 = .ok (.iload 6, 2) := by decide +kernel
theorem dn_M_feed_45 : decode bn_M_feed 45 = .ok (.iconst 4, 1) := by decide +kernel
theorem dn_M_feed_46 : decode bn_M_feed 46 = .ok (.if_icmp .ge 7, 3) := by decide +kernel
theorem dn_M_feed_49 : decode bn_M_feed 49 = .ok (.iload_n 1, 1) := by decide +kernel
theorem dn_M_feed_50 : decode bn_M_feed 50 = .ok (.goto 39, 3) := by decide +kernel
theorem dn_M_feed_53 : decode bn_M_feed 53 = .ok (.iload 6, 2) := by decide +kernel
theorem dn_M_feed_55 : decode bn_M_feed 55 = .ok (.bipush 8, 2) := by decide +kernel
theorem dn_M_feed_57 : decode bn_M_feed 57 = .ok (.if_icmp .ge 7, 3) := by decide +kernel
theorem dn_M_feed_60 : decode bn_M_feed 60 = .ok (.iload_n 2, 1) := by decide +kernel
theorem dn_M_feed_61 : decode bn_M_feed 61 = .ok (.goto 28, 3) := by decide +kernel
theorem dn_M_feed_64 : decode bn_M_feed 64 = .ok (.iload 6, 2) := by decide +kernel
theorem dn_M_feed_66 : decode bn_M_feed 66 = .ok (.bipush 12, 2) := by decide +kernel
theorem dn_M_feed_68 : decode bn_M_feed 68 = .ok (.if_icmp .ge 7, 3) := by decide +kernel
theorem dn_M_feed_71 : decode bn_M_feed 71 = .ok (.iload_n 3, 1) := by decide +kernel
theorem dn_M_feed_72 : decode bn_M_feed 72 = .ok (.goto 17, 3) := by decide +kernel
theorem dn_M_feed_75 : decode bn_M_feed 75 = .ok (.iload 6, 2) := by decide +kernel
theorem dn_M_feed_77 : decode bn_M_feed 77 = .ok (.bipush 16, 2) := by decide +kernel
theorem dn_M_feed_79 : decode bn_M_feed 79 = .ok (.if_icmp .ge 8, 3) := by decide +kernel
theorem dn_M_feed_82 : decode bn_M_feed 82 = .ok (.iload 4, 2) := by decide +kernel
theorem dn_M_feed_84 : decode bn_M_feed 84 = .ok (.goto 5, 3) := by decide +kernel
theorem dn_M_feed_87 : decode bn_M_feed 87 = .ok (.iload 5, 2) := by decide +kernel
theorem dn_M_feed_89 : decode bn_M_feed 89 = .ok (.istore 7, 2) := by decide +kernel
theorem dn_M_feed_91 : decode bn_M_feed 91 = .ok (.aload_n 0, 1) := by decide +kernel
theorem dn_M_feed_92 : decode bn_M_feed 92 = .ok (.getfield 8, 3) := by decide +kernel
theorem dn_M_feed_95 : decode bn_M_feed 95 = .ok (.aload_n 0, 1) := by decide +kernel
theorem dn_M_feed_96 : decode bn_M_feed 96 = .ok (.getfield 536, 3) := by decide +kernel
theorem dn_M_feed_99 : decode bn_M_feed 99 = .ok (.iload 6, 2) := by decide +kernel
theorem dn_M_feed_101 : decode bn_M_feed 101 = .ok (.iadd, 1) := by decide +kernel
theorem dn_M_feed_102 : decode bn_M_feed 102 = .ok (.iload 7, 2) := by decide +kernel
theorem dn_M_feed_104 : decode bn_M_feed 104 = .ok (.bipush 24, 2) := by decide +kernel
theorem dn_M_feed_106 : decode bn_M_feed 106 = .ok (.bipush 8, 2) := by decide +kernel
theorem dn_M_feed_108 : decode bn_M_feed 108 = .ok (.iload 6, 2) := by decide +kernel
theorem dn_M_feed_110 : decode bn_M_feed 110 = .ok (.iconst 4, 1) := by decide +kernel
theorem dn_M_feed_111 : decode bn_M_feed 111 = .ok (.irem, 1) := by decide +kernel
theorem dn_M_feed_112 : decode bn_M_feed 112 = .ok (.imul, 1) := by decide +kernel
theorem dn_M_feed_113 : decode bn_M_feed 113 = .ok (.isub, 1) := by decide +kernel
theorem dn_M_feed_114 : decode bn_M_feed 114 = .ok (.ishr, 1) := by decide +kernel
theorem dn_M_feed_115 : decode bn_M_feed 115 = .ok (.i2b, 1) := by decide +kernel
theorem dn_M_feed_116 : decode bn_M_feed 116 = .ok (.bastore, 1) := by decide +kernel
theorem dn_M_feed_117 : decode bn_M_feed 117 = .ok (.iinc 6 1, 3) := by decide +kernel
theorem dn_M_feed_120 : decode bn_M_feed 120 = .ok (.goto (-84), 3) := by decide +kernel
theorem dn_M_feed_123 : decode bn_M_feed 123 = .ok (.aload_n 0, 1) := by decide +kernel
theorem dn_M_feed_124 : decode bn_M_feed 124 = .ok (.aload_n 0, 1) := by decide +kernel
theorem dn_M_feed_125 : decode bn_M_feed 125 = .ok (.getfield 536, 3) := by decide +kernel
theorem dn_M_feed_128 : decode bn_M_feed 128 = .ok (.bipush 20, 2) := by decide +kernel
theorem dn_M_feed_130 : decode bn_M_feed 130 = .ok (.iadd, 1) := by decide +kernel
theorem dn_M_feed_131 : decode bn_M_feed 131 = .ok (.putfield 536, 3) := by decide +kernel
theorem dn_M_feed_134 : decode bn_M_feed 134 = .ok (.aload_n 0, 1) := by decide +kernel
theorem dn_M_feed_135 : decode bn_M_feed 135 = .ok (.getfield 536, 3) := by decide +kernel
theorem dn_M_feed_138 : decode bn_M_feed 138 = .ok (.ireturn, 1) := by decide +kernel
theorem dn_M_find_0 : decode bn_M_find 0 = .ok (.aload_n 0, 1) := by decide +kernel
theorem dn_M_find_1 : decode bn_M_find 1 = .ok (.aload_n 0, 1) := by decide +kernel
theorem dn_M_find_2 : decode bn_M_find 2 = .ok (.getfield 545, 3) := by decide +kernel
theorem dn_M_find_5 : decode bn_M_find 5 = .ok (.ifCond .eq 7, 3) := by decide +kernel
theorem dn_M_find_12 : decode bn_M_find 12 = .ok (.iconst 1, 1) := by decide +kernel
theorem dn_M_find_13 : decode bn_M_find 13 = .ok (.putfield 192, 3) := by decide +kernel
theorem dn_M_find_16 : decode bn_M_find 16 = .ok (.aload_n 0, 1) := by decide +kernel
theorem dn_M_find_17 : decode bn_M_find 17 = .ok (.getfield 192, 3) := by decide +kernel
theorem dn_M_find_20 : decode bn_M_find 20 = .ok (.ifCond .le 5, 3) := by decide +kernel
theorem dn_M_find_23 : decode bn_M_find 23 = .ok (.iconst 0, 1) := by decide +kernel
theorem dn_M_find_24 : decode bn_M_find 24 = .ok (.ireturn, 1) := by decide +kernel
theorem dn_M_init_0 : decode bn_M_init 0 = .ok (.aload_n 0, 1) := by decide +kernel
theorem dn_M_init_1 : decode bn_M_init 1 = .ok (.invokespecial 1, 3) := by decide +kernel
theorem dn_M_init_4 : decode bn_M_init 4 = .ok (.aload_n 0, 1) := by decide +kernel
theorem dn_M_init_5 : decode bn_M_init 5 = .ok (.ldc 7, 2) := by decide +kernel
theorem dn_M_init_7 : decode bn_M_init 7 = .ok (.newarray .byte, 2) := by decide +kernel
theorem dn_M_init_9 : decode bn_M_init 9 = .ok (.putfield 8, 3) := by decide +kernel
theorem dn_M_init_12 : decode bn_M_init 12 = .ok (.aload_n 0, 1) := by decide +kernel
theorem dn_M_init_13 : decode bn_M_init 13 = .ok (.ldc 14, 2) := by decide +kernel
theorem dn_M_init_15 : decode bn_M_init 15 = .ok (.newarray .int, 2) := by decide +kernel
theorem dn_M_init_17 : decode bn_M_init 17 = .ok (.putfield 15, 3) := by decide +kernel
theorem dn_M_init_20 : decode bn_M_init 20 = .ok (.aload_n 0, 1) := by decide +kernel
theorem dn_M_init_21 : decode bn_M_init 21 = .ok (.ldc 14, 2) := by decide +kernel
theorem dn_M_init_23 : decode bn_M_init 23 = .ok (.newarray .int, 2) := by decide +kernel
theorem dn_M_init_25 : decode bn_M_init 25 = .ok (.putfield 19, 3) := by decide +kernel
theorem dn_M_init_28 : decode bn_M_init 28 = .ok (.aload_n 0, 1) := by decide +kernel
theorem dn_M_init_29 : decode bn_M_init 29 = .ok (.ldc 14, 2) := by decide +kernel
theorem dn_M_init_31 : decode bn_M_init 31 = .ok (.newarray .int, 2) := by decide +kernel
theorem dn_M_init_33 : decode bn_M_init 33 = .ok (.putfield 22, 3) := by decide +kernel
theorem dn_M_init_36 : decode bn_M_init 36 = .ok (.aload_n 0, 1) := by decide +kernel
theorem dn_M_init_37 : decode bn_M_init 37 = .ok (.sipush 3600, 3) := by decide +kernel
theorem dn_M_init_40 : decode bn_M_init 40 = .ok (.newarray .int, 2) := by decide +kernel
theorem dn_M_init_42 : decode bn_M_init 42 = .ok (.putfield 25, 3) := by decide +kernel
theorem dn_M_init_45 : decode bn_M_init 45 = .ok (.aload_n 0, 1) := by decide +kernel
theorem dn_M_init_46 : decode bn_M_init 46 = .ok (.sipush 3601, 3) := by decide +kernel
theorem dn_M_init_49 : decode bn_M_init 49 = .ok (.newarray .int, 2) := by decide +kernel
theorem dn_M_init_51 : decode bn_M_init 51 = .ok (.putfield 28, 3) := by decide +kernel
theorem dn_M_init_54 : decode bn_M_init 54 = .ok (.aload_n 0, 1) := by decide +kernel
theorem dn_M_init_55 : decode bn_M_init 55 = .ok (.sipush 3601, 3) := by decide +kernel
theorem dn_M_init_58 : decode bn_M_init 58 = .ok (.newarray .int, 2) := by decide +kernel
theorem dn_M_init_60 : decode bn_M_init 60 = .ok (.putfield 31, 3) := by decide +kernel
theorem dn_M_init_63 : decode bn_M_init 63 = .ok (.aload_n 0, 1) := by decide +kernel
theorem dn_M_init_64 : decode bn_M_init 64 = .ok (.sipush 3601, 3) := by decide +kernel
theorem dn_M_init_67 : decode bn_M_init 67 = .ok (.newarray .int, 2) := by decide +kernel
theorem dn_M_init_69 : decode bn_M_init 69 = .ok (.putfield 34, 3) := by decide +kernel
theorem dn_M_init_72 : decode bn_M_init 72 = .ok (.aload_n 0, 1) := by decide +kernel
theorem dn_M_init_73 : decode bn_M_init 73 = .ok (.sipush 3601, 3) := by decide +kernel
theorem dn_M_init_76 : decode bn_M_init 76 = .ok (.newarray .int, 2) := by decide +kernel
theorem dn_M_init_78 : decode bn_M_init 78 = .ok (.putfield 37, 3) := by decide +kernel
theorem dn_M_init_81 : decode bn_M_init 81 = .ok (.aload_n 0, 1) := by decide +kernel
theorem dn_M_init_82 : decode bn_M_init 82 = .ok (.sipush 11000, 3) := by decide +kernel
theorem dn_M_init_85 : decode bn_M_init 85 = .ok (.newarray .int, 2) := by decide +kernel
theorem dn_M_init_87 : decode bn_M_init 87 = .ok (.putfield 40, 3) := by decide +kernel
theorem dn_M_init_90 : decode bn_M_init 90 = .ok (.aload_n 0, 1) := by decide +kernel
theorem dn_M_init_91 : decode bn_M_init 91 = .ok (.sipush 11000, 3) := by decide +kernel
theorem dn_M_init_94 : decode bn_M_init 94 = .ok (.newarray .int, 2) := by decide +kernel
theorem dn_M_init_96 : decode bn_M_init 96 = .ok (.putfield 43, 3) := by decide +kernel
theorem dn_M_init_99 : decode bn_M_init 99 = .ok (.aload_n 0, 1) := by decide +kernel
theorem dn_M_init_100 : decode bn_M_init 100 = .ok (.sipush 11000, 3) := by decide +kernel
theorem dn_M_init_103 : decode bn_M_init 103 = .ok (.newarray .int, 2) := by decide +kernel
theorem dn_M_init_105 : decode bn_M_init 105 = .ok (.putfield 46, 3) := by decide +kernel
theorem dn_M_init_108 : decode bn_M_init 108 = .ok (.aload_n 0, 1) := by decide +kernel
theorem dn_M_init_109 : decode bn_M_init 109 = .ok (.sipush 11000, 3) := by decide +kernel
theorem dn_M_init_112 : decode bn_M_init 112 = .ok (.newarray .long, 2) := by decide +kernel
theorem dn_M_init_114 : decode bn_M_init 114 = .ok (.putfield 49, 3) := by decide +kernel
theorem dn_M_init_117 : decode bn_M_init 117 = .ok (.aload_n 0, 1) := by decide +kernel
theorem dn_M_init_118 : decode bn_M_init 118 = .ok (.sipush 11000, 3) := by decide +kernel
theorem dn_M_init_121 : decode bn_M_init 121 = .ok (.newarray .int, 2) := by decide +kernel
theorem dn_M_init_123 : decode bn_M_init 123 = .ok (.putfield 53, 3) := by decide +kernel
theorem dn_M_init_126 : decode bn_M_init 126 = .ok (.aload_n 0, 1) := by decide +kernel
theorem dn_M_init_127 : decode bn_M_init 127 = .ok (.sipush 11000, 3) := by decide +kernel
theorem dn_M_init_130 : decode bn_M_init 130 = .ok (.newarray .int, 2) := by decide +kernel
theorem dn_M_init_132 : decode bn_M_init 132 = .ok (.putfield 56, 3) := by decide +kernel
theorem dn_M_init_135 : decode bn_M_init 135 = .ok (.aload_n 0, 1) := by decide +kernel
theorem dn_M_init_136 : decode bn_M_init 136 = .ok (.sipush 11000, 3) := by decide +kernel
theorem dn_M_init_139 : decode bn_M_init 139 = .ok (.newarray .int, 2) := by decide +kernel
theorem dn_M_init_141 : decode bn_M_init 141 = .ok (.putfield 59, 3) := by decide +kernel
theorem dn_M_init_144 : decode bn_M_init 144 = .ok (.aload_n 0, 1) := by decide +kernel
theorem dn_M_init_145 : decode bn_M_init 145 = .ok (.sipush 11000, 3) := by decide +kernel
theorem dn_M_init_148 : decode bn_M_init 148 = .ok (.newarray .int, 2) := by decide +kernel
theorem dn_M_init_150 : decode bn_M_init 150 = .ok (.putfield 62, 3) := by decide +kernel
theorem dn_M_init_153 : decode bn_M_init 153 = .ok (.aload_n 0, 1) := by decide +kernel
theorem dn_M_init_154 : decode bn_M_init 154 = .ok (.sipush 11000, 3) := by decide +kernel
theorem dn_M_init_157 : decode bn_M_init 157 = .ok (.newarray .int, 2) := by decide +kernel
theorem dn_M_init_159 : decode bn_M_init 159 = .ok (.putfield 65, 3) := by decide +kernel
theorem dn_M_init_162 : decode bn_M_init 162 = .ok (.aload_n 0, 1) := by decide +kernel
theorem dn_M_init_163 : decode bn_M_init 163 = .ok (.sipush 11000, 3) := by decide +kernel
theorem dn_M_init_166 : decode bn_M_init 166 = .ok (.newarray .int, 2) := by decide +kernel
theorem dn_M_init_168 : decode bn_M_init 168 = .ok (.putfield 68, 3) := by decide +kernel
theorem dn_M_init_171 : decode bn_M_init 171 = .ok (.aload_n 0, 1) := by decide +kernel
theorem dn_M_init_172 : decode bn_M_init 172 = .ok (.sipush 11001, 3) := by decide +kernel
theorem dn_M_init_175 : decode bn_M_init 175 = .ok (.newarray .int, 2) := by decide +kernel
theorem dn_M_init_177 : decode bn_M_init 177 = .ok (.putfield 71, 3) := by decide +kernel
theorem dn_M_init_180 : decode bn_M_init 180 = .ok (.aload_n 0, 1) := by decide +kernel
theorem dn_M_init_181 : decode bn_M_init 181 = .ok (.sipush 11000, 3) := by decide +kernel
theorem dn_M_init_184 : decode bn_M_init 184 = .ok (.newarray .int, 2) := by decide +kernel
theorem dn_M_init_186 : decode bn_M_init 186 = .ok (.putfield 74, 3) := by decide +kernel
theorem dn_M_init_189 : decode bn_M_init 189 = .ok (.aload_n 0, 1) := by decide +kernel
theorem dn_M_init_190 : decode bn_M_init 190 = .ok (.sipush 11000, 3) := by decide +kernel
theorem dn_M_init_193 : decode bn_M_init 193 = .ok (.newarray .int, 2) := by decide +kernel
theorem dn_M_init_195 : decode bn_M_init 195 = .ok (.putfield 77, 3) := by decide +kernel
theorem dn_M_init_198 : decode bn_M_init 198 = .ok (.aload_n 0, 1) := by decide +kernel
theorem dn_M_init_199 : decode bn_M_init 199 = .ok (.sipush 11000, 3) := by decide +kernel
theorem dn_M_init_202 : decode bn_M_init 202 = .ok (.newarray .int, 2) := by decide +kernel
theorem dn_M_init_204 : decode bn_M_init 204 = .ok (.putfield 80, 3) := by decide +kernel
theorem dn_M_init_207 : decode bn_M_init 207 = .ok (.aload_n 0, 1) := by decide +kernel
theorem dn_M_init_208 : decode bn_M_init 208 = .ok (.sipush 6600, 3) := by decide +kernel
theorem dn_M_init_211 : decode bn_M_init 211 = .ok (.newarray .int, 2) := by decide +kernel
theorem dn_M_init_213 : decode bn_M_init 213 = .ok (.putfield 83, 3) := by decide +kernel
theorem dn_M_init_216 : decode bn_M_init 216 = .ok (.aload_n 0, 1) := by decide +kernel
theorem dn_M_init_217 : decode bn_M_init 217 = .ok (.sipush 6600, 3) := by decide +kernel
theorem dn_M_init_220 : decode bn_M_init 220 = .ok (.newarray .int, 2) := by decide +kernel
theorem dn_M_init_222 : decode bn_M_init 222 = .ok (.putfield 86, 3) := by decide +kernel
theorem dn_M_init_225 : decode bn_M_init 225 = .ok (.aload_n 0, 1) := by decide +kernel
theorem dn_M_init_226 : decode bn_M_init 226 = .ok (.sipush 6600, 3) := by decide +kernel
theorem dn_M_init_229 : decode bn_M_init 229 = .ok (.newarray .int, 2) := by decide +kernel
theorem dn_M_init_231 : decode bn_M_init 231 = .ok (.putfield 89, 3) := by decide +kernel
theorem dn_M_init_234 : decode bn_M_init 234 = .ok (.aload_n 0, 1) := by decide +kernel
theorem dn_M_init_235 : decode bn_M_init 235 = .ok (.sipush 6600, 3) := by decide +kernel
theorem dn_M_init_238 : decode bn_M_init 238 = .ok (.newarray .int, 2) := by decide +kernel
theorem dn_M_init_240 : decode bn_M_init 240 = .ok (.putfield 92, 3) := by decide +kernel
theorem dn_M_init_243 : decode bn_M_init 243 = .ok (.aload_n 0, 1) := by decide +kernel
theorem dn_M_init_244 : decode bn_M_init 244 = .ok (.sipush 4096, 3) := by decide +kernel
theorem dn_M_init_247 : decode bn_M_init 247 = .ok (.newarray .int, 2) := by decide +kernel
theorem dn_M_init_249 : decode bn_M_init 249 = .ok (.putfield 95, 3) := by decide +kernel
theorem dn_M_init_252 : decode bn_M_init 252 = .ok (.aload_n 0, 1) := by decide +kernel
theorem dn_M_init_253 : decode bn_M_init 253 = .ok (.sipush 256, 3) := by decide +kernel
theorem dn_M_init_256 : decode bn_M_init 256 = .ok (.newarray .long, 2) := by decide +kernel
theorem dn_M_init_258 : decode bn_M_init 258 = .ok (.putfield 98, 3) := by decide +kernel
theorem dn_M_init_261 : decode bn_M_init 261 = .ok (.aload_n 0, 1) := by decide +kernel
theorem dn_M_init_262 : decode bn_M_init 262 = .ok (.sipush 3600, 3) := by decide +kernel
theorem dn_M_init_265 : decode bn_M_init 265 = .ok (.newarray .long, 2) := by decide +kernel
theorem dn_M_init_267 : decode bn_M_init 267 = .ok (.putfield 101, 3) := by decide +kernel
theorem dn_M_init_270 : decode bn_M_init 270 = .ok (.aload_n 0, 1) := by decide +kernel
theorem dn_M_init_271 : decode bn_M_init 271 = .ok (.sipush 3600, 3) := by decide +kernel
theorem dn_M_init_274 : decode bn_M_init 274 = .ok (.newarray .long, 2) := by decide +kernel
theorem dn_M_init_276 : decode bn_M_init 276 = .ok (.putfield 104, 3) := by decide +kernel
theorem dn_M_init_279 : decode bn_M_init 279 = .ok (.aload_n 0, 1) := by decide +kernel
theorem dn_M_init_280 : decode bn_M_init 280 = .ok (.sipush 3600, 3) := by decide +kernel
theorem dn_M_init_283 : decode bn_M_init 283 = .ok (.newarray .long, 2) := by decide +kernel
theorem dn_M_init_285 : decode bn_M_init 285 = .ok (.putfield 107, 3) := by decide +kernel
theorem dn_M_init_288 : decode bn_M_init 288 = .ok (.aload_n 0, 1) := by decide +kernel
theorem dn_M_init_289 : decode bn_M_init 289 = .ok (.sipush 3600, 3) := by decide +kernel
theorem dn_M_init_292 : decode bn_M_init 292 = .ok (.newarray .long, 2) := by decide +kernel
theorem dn_M_init_294 : decode bn_M_init 294 = .ok (.putfield 110, 3) := by decide +kernel
theorem dn_M_init_297 : decode bn_M_init 297 = .ok (.aload_n 0, 1) := by decide +kernel
theorem dn_M_init_298 : decode bn_M_init 298 = .ok (.sipush 4096, 3) := by decide +kernel
theorem dn_M_init_301 : decode bn_M_init 301 = .ok (.newarray .int, 2) := by decide +kernel
theorem dn_M_init_303 : decode bn_M_init 303 = .ok (.putfield 113, 3) := by decide +kernel
theorem dn_M_init_306 : decode bn_M_init 306 = .ok (.aload_n 0, 1) := by decide +kernel
theorem dn_M_init_307 : decode bn_M_init 307 = .ok (.sipush 4096, 3) := by decide +kernel
theorem dn_M_init_310 : decode bn_M_init 310 = .ok (.newarray .int, 2) := by decide +kernel
theorem dn_M_init_312 : decode bn_M_init 312 = .ok (.putfield 116, 3) := by decide +kernel
theorem dn_M_init_315 : decode bn_M_init 315 = .ok (.aload_n 0, 1) := by decide +kernel
theorem dn_M_init_316 : decode bn_M_init 316 = .ok (.sipush 4096, 3) := by decide +kernel
theorem dn_M_init_319 : decode bn_M_init 319 = .ok (.newarray .int, 2) := by decide +kernel
theorem dn_M_init_321 : decode bn_M_init 321 = .ok (.putfield 119, 3) := by decide +kernel
theorem dn_M_init_324 : decode bn_M_init 324 = .ok (.aload_n 0, 1) := by decide +kernel
theorem dn_M_init_325 : decode bn_M_init 325 = .ok (.ldc 7, 2) := by decide +kernel
theorem dn_M_init_327 : decode bn_M_init 327 = .ok (.newarray .byte, 2) := by decide +kernel
theorem dn_M_init_329 : decode bn_M_init 329 = .ok (.putfield 122, 3) := by decide +kernel
theorem dn_M_init_332 : decode bn_M_init 332 = .ok (.aload_n 0, 1) := by decide +kernel
theorem dn_M_init_333 : decode bn_M_init 333 = .ok (.sipush 260, 3) := by decide +kernel
theorem dn_M_init_336 : decode bn_M_init 336 = .ok (.newarray .int, 2) := by decide +kernel
theorem dn_M_init_338 : decode bn_M_init 338 = .ok (.putfield 125, 3) := by decide +kernel
theorem dn_M_init_341 : decode bn_M_init 341 = .ok (.aload_n 0, 1) := by decide +kernel
theorem dn_M_init_342 : decode bn_M_init 342 = .ok (.sipush 260, 3) := by decide +kernel
theorem dn_M_init_345 : decode bn_M_init 345 = .ok (.newarray .int, 2) := by decide +kernel
theorem dn_M_init_347 : decode bn_M_init 347 = .ok (.putfield 128, 3) := by decide +kernel
theorem dn_M_init_350 : decode bn_M_init 350 = .ok (.aload_n 0, 1) := by decide +kernel
theorem dn_M_init_351 : decode bn_M_init 351 = .ok (.sipush 260, 3) := by decide +kernel
theorem dn_M_init_354 : decode bn_M_init 354 = .ok (.newarray .int, 2) := by decide +kernel
theorem dn_M_init_356 : decode bn_M_init 356 = .ok (.putfield 131, 3) := by decide +kernel
theorem dn_M_init_359 : decode bn_M_init 359 = .ok (.aload_n 0, 1) := by decide +kernel
theorem dn_M_init_360 : decode bn_M_init 360 = .ok (.sipush 260, 3) := by decide +kernel
theorem dn_M_init_363 : decode bn_M_init 363 = .ok (.newarray .int, 2) := by decide +kernel
theorem dn_M_init_365 : decode bn_M_init 365 = .ok (.putfield 134, 3) := by decide +kernel
theorem dn_M_init_368 : decode bn_M_init 368 = .ok (.aload_n 0, 1) := by decide +kernel
theorem dn_M_init_369 : decode bn_M_init 369 = .ok (.sipush 260, 3) := by decide +kernel
theorem dn_M_init_372 : decode bn_M_init 372 = .ok (.newarray .int, 2) := by decide +kernel
theorem dn_M_init_374 : decode bn_M_init 374 = .ok (.putfield 137, 3) := by decide +kernel
theorem dn_M_init_377 : decode bn_M_init 377 = .ok (.aload_n 0, 1) := by decide +kernel
theorem dn_M_init_378 : decode bn_M_init 378 = .ok (.sipush 260, 3) := by decide +kernel
theorem dn_M_init_381 : decode bn_M_init 381 = .ok (.newarray .int, 2) := by decide +kernel
theorem dn_M_init_383 : decode bn_M_init 383 = .ok (.putfield 140, 3) := by decide +kernel
theorem dn_M_init_386 : decode bn_M_init 386 = .ok (.aload_n 0, 1) := by decide +kernel
theorem dn_M_init_387 : decode bn_M_init 387 = .ok (.sipush 1100, 3) := by decide +kernel
theorem dn_M_init_390 : decode bn_M_init 390 = .ok (.newarray .int, 2) := by decide +kernel
theorem dn_M_init_392 : decode bn_M_init 392 = .ok (.putfield 143, 3) := by decide +kernel
theorem dn_M_init_395 : decode bn_M_init 395 = .ok (.aload_n 0, 1) := by decide +kernel
theorem dn_M_init_396 : decode bn_M_init 396 = .ok (.sipush 1100, 3) := by decide +kernel
theorem dn_M_init_399 : decode bn_M_init 399 = .ok (.newarray .int, 2) := by decide +kernel
theorem dn_M_init_401 : decode bn_M_init 401 = .ok (.putfield 146, 3) := by decide +kernel
theorem dn_M_init_404 : decode bn_M_init 404 = .ok (.aload_n 0, 1) := by decide +kernel
theorem dn_M_init_405 : decode bn_M_init 405 = .ok (.sipush 1100, 3) := by decide +kernel
theorem dn_M_init_408 : decode bn_M_init 408 = .ok (.newarray .int, 2) := by decide +kernel
theorem dn_M_init_410 : decode bn_M_init 410 = .ok (.putfield 149, 3) := by decide +kernel
theorem dn_M_init_413 : decode bn_M_init 413 = .ok (.aload_n 0, 1) := by decide +kernel
theorem dn_M_init_414 : decode bn_M_init 414 = .ok (.sipush 1100, 3) := by decide +kernel
theorem dn_M_init_417 : decode bn_M_init 417 = .ok (.newarray .int, 2) := by decide +kernel
theorem dn_M_init_419 : decode bn_M_init 419 = .ok (.putfield 152, 3) := by decide +kernel
theorem dn_M_init_422 : decode bn_M_init 422 = .ok (.aload_n 0, 1) := by decide +kernel
theorem dn_M_init_423 : decode bn_M_init 423 = .ok (.sipush 1100, 3) := by decide +kernel
theorem dn_M_init_426 : decode bn_M_init 426 = .ok (.newarray .int, 2) := by decide +kernel
theorem dn_M_init_428 : decode bn_M_init 428 = .ok (.putfield 155, 3) := by decide +kernel
theorem dn_M_init_431 : decode bn_M_init 431 = .ok (.aload_n 0, 1) := by decide +kernel
theorem dn_M_init_432 : decode bn_M_init 432 = .ok (.sipush 1100, 3) := by decide +kernel
theorem dn_M_init_435 : decode bn_M_init 435 = .ok (.newarray .int, 2) := by decide +kernel
theorem dn_M_init_437 : decode bn_M_init 437 = .ok (.putfield 158, 3) := by decide +kernel
theorem dn_M_init_440 : decode bn_M_init 440 = .ok (.aload_n 0, 1) := by decide +kernel
theorem dn_M_init_441 : decode bn_M_init 441 = .ok (.sipush 1100, 3) := by decide +kernel
theorem dn_M_init_444 : decode bn_M_init 444 = .ok (.newarray .int, 2) := by decide +kernel
theorem dn_M_init_446 : decode bn_M_init 446 = .ok (.putfield 161, 3) := by decide +kernel
theorem dn_M_init_449 : decode bn_M_init 449 = .ok (.aload_n 0, 1) := by decide +kernel
theorem dn_M_init_450 : decode bn_M_init 450 = .ok (.sipush 1100, 3) := by decide +kernel
theorem dn_M_init_453 : decode bn_M_init 453 = .ok (.newarray .boolean, 2) := by decide +kernel
theorem dn_M_init_455 : decode bn_M_init 455 = .ok (.putfield 164, 3) := by decide +kernel
theorem dn_M_init_458 : decode bn_M_init 458 = .ok (.aload_n 0, 1) := by decide +kernel
theorem dn_M_init_459 : decode bn_M_init 459 = .ok (.sipush 1100, 3) := by decide +kernel
theorem dn_M_init_462 : decode bn_M_init 462 = .ok (.newarray .boolean, 2) := by decide +kernel
theorem dn_M_init_464 : decode bn_M_init 464 = .ok (.putfield 168, 3) := by decide +kernel
theorem dn_M_init_467 : decode bn_M_init 467 = .ok (.aload_n 0, 1) := by decide +kernel
theorem dn_M_init_468 : decode bn_M_init 468 = .ok (.sipush 1100, 3) := by decide +kernel
theorem dn_M_init_471 : decode bn_M_init 471 = .ok (.newarray .int, 2) := by decide +kernel
theorem dn_M_init_473 : decode bn_M_init 473 = .ok (.putfield 171, 3) := by decide +kernel
theorem dn_M_init_476 : decode bn_M_init 476 = .ok (.aload_n 0, 1) := by decide +kernel
theorem dn_M_init_477 : decode bn_M_init 477 = .ok (.sipush 1100, 3) := by decide +kernel
theorem dn_M_init_480 : decode bn_M_init 480 = .ok (.newarray .long, 2) := by decide +kernel
theorem dn_M_init_482 : decode bn_M_init 482 = .ok (.putfield 174, 3) := by decide +kernel
theorem dn_M_init_485 : decode bn_M_init 485 = .ok (.aload_n 0, 1) := by decide +kernel
theorem dn_M_init_486 : decode bn_M_init 486 = .ok (.sipush 1100, 3) := by decide +kernel
theorem dn_M_init_489 : decode bn_M_init 489 = .ok (.newarray .long, 2) := by decide +kernel
theorem dn_M_init_491 : decode bn_M_init 491 = .ok (.putfield 177, 3) := by decide +kernel
theorem dn_M_init_494 : decode bn_M_init 494 = .ok (.aload_n 0, 1) := by decide +kernel
theorem dn_M_init_495 : decode bn_M_init 495 = .ok (.sipush 1100, 3) := by decide +kernel
theorem dn_M_init_498 : decode bn_M_init 498 = .ok (.newarray .long, 2) := by decide +kernel
theorem dn_M_init_500 : decode bn_M_init 500 = .ok (.putfield 180, 3) := by decide +kernel
theorem dn_M_init_503 : decode bn_M_init 503 = .ok (.aload_n 0, 1) := by decide +kernel
theorem dn_M_init_504 : decode bn_M_init 504 = .ok (.sipush 1100, 3) := by decide +kernel
theorem dn_M_init_507 : decode bn_M_init 507 = .ok (.newarray .long, 2) := by decide +kernel
theorem dn_M_init_509 : decode bn_M_init 509 = .ok (.putfield 183, 3) := by decide +kernel
theorem dn_M_init_512 : decode bn_M_init 512 = .ok (.aload_n 0, 1) := by decide +kernel
theorem dn_M_init_513 : decode bn_M_init 513 = .ok (.sipush 4096, 3) := by decide +kernel
theorem dn_M_init_516 : decode bn_M_init 516 = .ok (.newarray .long, 2) := by decide +kernel
theorem dn_M_init_518 : decode bn_M_init 518 = .ok (.putfield 186, 3) := by decide +kernel
theorem dn_M_init_521 : decode bn_M_init 521 = .ok (.aload_n 0, 1) := by decide +kernel
theorem dn_M_init_522 : decode bn_M_init 522 = .ok (.ldc 7, 2) := by decide +kernel
theorem dn_M_init_524 : decode bn_M_init 524 = .ok (.newarray .byte, 2) := by decide +kernel
theorem dn_M_init_526 : decode bn_M_init 526 = .ok (.putfield 189, 3) := by decide +kernel
theorem dn_M_init_529 : decode bn_M_init 529 = .ok (.return_, 1) := by decide +kernel
theorem dn_M_is_0 : decode bn_M_is 0 = .ok (.aload_n 0, 1) := by decide +kernel
theorem dn_M_is_1 : decode bn_M_is 1 = .ok (.getfield 257, 3) := by decide +kernel
theorem dn_M_is_4 : decode bn_M_is 4 = .ok (.ifCond .ne 20, 3) := by decide +kernel
theorem dn_M_is_24 : decode bn_M_is 24 = .ok (.iconst 0, 1) := by decide +kernel
theorem dn_M_is_25 : decode bn_M_is 25 = .ok (.ireturn, 1) := by decide +kernel
theorem dn_M_no_0 : decode bn_M_no 0 = .ok (.aload_n 0, 1) := by decide +kernel
theorem dn_M_no_1 : decode bn_M_no 1 = .ok (.aload_n 0, 1) := by decide +kernel
theorem dn_M_no_2 : decode bn_M_no 2 = .ok (.getfield 15, 3) := by decide +kernel
theorem dn_M_no_5 : decode bn_M_no 5 = .ok (.aload_n 0, 1) := by decide +kernel
theorem dn_M_no_6 : decode bn_M_no 6 = .ok (.getfield 263, 3) := by decide +kernel
theorem dn_M_no_9 : decode bn_M_no 9 = .ok (.iaload, 1) := by decide +kernel
theorem dn_M_no_10 : decode bn_M_no 10 = .ok (.sipush 404, 3) := by decide +kernel
theorem dn_M_no_13 : decode bn_M_no 13 = .ok (.if_icmp .ne 7, 3) := by decide +kernel
theorem dn_M_no_20 : decode bn_M_no 20 = .ok (.iconst 2, 1) := by decide +kernel
theorem dn_M_no_21 : decode bn_M_no 21 = .ok (.aload_n 0, 1) := by decide +kernel
theorem dn_M_no_22 : decode bn_M_no 22 = .ok (.getfield 19, 3) := by decide +kernel
theorem dn_M_no_25 : decode bn_M_no 25 = .ok (.aload_n 0, 1) := by decide +kernel
theorem dn_M_no_26 : decode bn_M_no 26 = .ok (.getfield 263, 3) := by decide +kernel
theorem dn_M_no_29 : decode bn_M_no 29 = .ok (.iaload, 1) := by decide +kernel
theorem dn_M_no_30 : decode bn_M_no 30 = .ok (.invokevirtual 266, 3) := by decide +kernel
theorem dn_M_no_33 : decode bn_M_no 33 = .ok (.return_, 1) := by decide +kernel
theorem dn_M_open_0 : decode bn_M_open 0 = .ok (.aload_n 0, 1) := by decide +kernel
theorem dn_M_open_1 : decode bn_M_open 1 = .ok (.iload_n 1, 1) := by decide +kernel
theorem dn_M_open_2 : decode bn_M_open 2 = .ok (.invokevirtual 273, 3) := by decide +kernel
theorem dn_M_open_5 : decode bn_M_open 5 = .ok (.ifCond .eq 36, 3) := by decide +kernel
theorem dn_M_open_41 : decode bn_M_open 41 = .ok (.aload_n 0, 1) := by decide +kernel
theorem dn_M_open_42 : decode bn_M_open 42 = .ok (.iload_n 1, 1) := by decide +kernel
theorem dn_M_open_43 : decode bn_M_open 43 = .ok (.invokevirtual 279, 3) := by decide +kernel
theorem dn_M_open_46 : decode bn_M_open 46 = .ok (.return_, 1) := by decide +kernel
theorem dn_M_readSource_0 : decode bn_M_readSource 0 = .ok (.aload_n 0, 1) := by decide +kernel
theorem dn_M_readSource_1 : decode bn_M_readSource 1 = .ok (.iconst 0, 1) := by decide +kernel
theorem dn_M_readSource_2 : decode bn_M_readSource 2 = .ok (.putfield 257, 3) := by decide +kernel
theorem dn_M_readSource_5 : decode bn_M_readSource 5 = .ok (.aload_n 0, 1) := by decide +kernel
theorem dn_M_readSource_6 : decode bn_M_readSource 6 = .ok (.iconst (-1), 1) := by decide +kernel
theorem dn_M_readSource_7 : decode bn_M_readSource 7 = .ok (.putfield 260, 3) := by decide +kernel
theorem dn_M_readSource_10 : decode bn_M_readSource 10 = .ok (.aload_n 0, 1) := by decide +kernel
theorem dn_M_readSource_11 : decode bn_M_readSource 11 = .ok (.invokevirtual 518, 3) := by decide +kernel
theorem dn_M_readSource_14 : decode bn_M_readSource 14 = .ok (.aload_n 0, 1) := by decide +kernel
theorem dn_M_readSource_15 : decode bn_M_readSource 15 = .ok (.invokevirtual 521, 3) := by decide +kernel
theorem dn_M_readSource_18 : decode bn_M_readSource 18 = .ok (.aload_n 0, 1) := by decide +kernel
theorem dn_M_readSource_19 : decode bn_M_readSource 19 = .ok (.getfield 257, 3) := by decide +kernel
theorem dn_M_readSource_22 : decode bn_M_readSource 22 = .ok (.ifCond .ne 7, 3) := by decide +kernel
theorem dn_M_readSource_29 : decode bn_M_readSource 29 = .ok (.aload_n 0, 1) := by decide +kernel
theorem dn_M_readSource_30 : decode bn_M_readSource 30 = .ok (.getfield 257, 3) := by decide +kernel
theorem dn_M_readSource_33 : decode bn_M_readSource 33 = .ok (.ifCond .ne 7, 3) := by decide +kernel
theorem dn_M_readSource_40 : decode bn_M_readSource 40 = .ok (.aload_n 0, 1) := by decide +kernel
theorem dn_M_readSource_41 : decode bn_M_readSource 41 = .ok (.getfield 257, 3) := by decide +kernel
theorem dn_M_readSource_44 : decode bn_M_readSource 44 = .ok (.ifCond .ne 11, 3) := by decide +kernel
theorem dn_M_readSource_55 : decode bn_M_readSource 55 = .ok (.return_, 1) := by decide +kernel
theorem dn_M_read_I_0 : decode bn_M_read_I 0 = .ok (.aload_n 0, 1) := by decide +kernel
theorem dn_M_read_I_1 : decode bn_M_read_I 1 = .ok (.iconst 0, 1) := by decide +kernel
theorem dn_M_read_I_2 : decode bn_M_read_I 2 = .ok (.putfield 192, 3) := by decide +kernel
theorem dn_M_read_I_5 : decode bn_M_read_I 5 = .ok (.iconst 0, 1) := by decide +kernel
theorem dn_M_read_I_6 : decode bn_M_read_I 6 = .ok (.istore_n 1, 1) := by decide +kernel
theorem dn_M_read_I_7 : decode bn_M_read_I 7 = .ok (.iload_n 1, 1) := by decide +kernel
theorem dn_M_read_I_8 : decode bn_M_read_I 8 = .ok (.aload_n 0, 1) := by decide +kernel
theorem dn_M_read_I_9 : decode bn_M_read_I 9 = .ok (.getfield 536, 3) := by decide +kernel
theorem dn_M_read_I_12 : decode bn_M_read_I 12 = .ok (.if_icmp .ge 21, 3) := by decide +kernel
theorem dn_M_read_I_33 : decode bn_M_read_I 33 = .ok (.aload_n 0, 1) := by decide +kernel
theorem dn_M_read_I_34 : decode bn_M_read_I 34 = .ok (.aload_n 0, 1) := by decide +kernel
theorem dn_M_read_I_35 : decode bn_M_read_I 35 = .ok (.getfield 536, 3) := by decide +kernel
theorem dn_M_read_I_38 : decode bn_M_read_I 38 = .ok (.putfield 196, 3) := by decide +kernel
theorem dn_M_read_I_41 : decode bn_M_read_I 41 = .ok (.aload_n 0, 1) := by decide +kernel
theorem dn_M_read_I_42 : decode bn_M_read_I 42 = .ok (.iconst 0, 1) := by decide +kernel
theorem dn_M_read_I_43 : decode bn_M_read_I 43 = .ok (.putfield 536, 3) := by decide +kernel
theorem dn_M_read_I_46 : decode bn_M_read_I 46 = .ok (.aload_n 0, 1) := by decide +kernel
theorem dn_M_read_I_47 : decode bn_M_read_I 47 = .ok (.invokevirtual 539, 3) := by decide +kernel
theorem dn_M_read_I_50 : decode bn_M_read_I 50 = .ok (.aload_n 0, 1) := by decide +kernel
theorem dn_M_read_I_51 : decode bn_M_read_I 51 = .ok (.aload_n 0, 1) := by decide +kernel
theorem dn_M_read_I_52 : decode bn_M_read_I 52 = .ok (.getfield 257, 3) := by decide +kernel
theorem dn_M_read_I_55 : decode bn_M_read_I 55 = .ok (.putfield 542, 3) := by decide +kernel
theorem dn_M_read_I_58 : decode bn_M_read_I 58 = .ok (.aload_n 0, 1) := by decide +kernel
theorem dn_M_read_I_59 : decode bn_M_read_I 59 = .ok (.getfield 260, 3) := by decide +kernel
theorem dn_M_read_I_62 : decode bn_M_read_I 62 = .ok (.istore_n 1, 1) := by decide +kernel
theorem dn_M_read_I_63 : decode bn_M_read_I 63 = .ok (.aload_n 0, 1) := by decide +kernel
theorem dn_M_read_I_64 : decode bn_M_read_I 64 = .ok (.getfield 257, 3) := by decide +kernel
theorem dn_M_read_I_67 : decode bn_M_read_I 67 = .ok (.ifCond .eq 52, 3) := by decide +kernel
theorem dn_M_read_I_70 : decode bn_M_read_I 70 = .ok (.aload_n 0, 1) := by decide +kernel
theorem dn_M_read_I_71 : decode bn_M_read_I 71 = .ok (.getfield 545, 3) := by decide +kernel
theorem dn_M_read_I_74 : decode bn_M_read_I 74 = .ok (.ifCond .eq 43, 3) := by decide +kernel
theorem dn_M_read_I_117 : decode bn_M_read_I 117 = .ok (.iload_n 1, 1) := by decide +kernel
theorem dn_M_read_I_118 : decode bn_M_read_I 118 = .ok (.ireturn, 1) := by decide +kernel
theorem dn_M_reset_0 : decode bn_M_reset 0 = .ok (.aload_n 0, 1) := by decide +kernel
theorem dn_M_reset_1 : decode bn_M_reset 1 = .ok (.aload_n 0, 1) := by decide +kernel
theorem dn_M_reset_2 : decode bn_M_reset 2 = .ok (.getfield 545, 3) := by decide +kernel
theorem dn_M_reset_5 : decode bn_M_reset 5 = .ok (.ifCond .eq 7, 3) := by decide +kernel
theorem dn_M_reset_12 : decode bn_M_reset 12 = .ok (.iconst 1, 1) := by decide +kernel
theorem dn_M_reset_13 : decode bn_M_reset 13 = .ok (.putfield 192, 3) := by decide +kernel
theorem dn_M_reset_16 : decode bn_M_reset 16 = .ok (.aload_n 0, 1) := by decide +kernel
theorem dn_M_reset_17 : decode bn_M_reset 17 = .ok (.getfield 545, 3) := by decide +kernel
theorem dn_M_reset_20 : decode bn_M_reset 20 = .ok (.ifCond .eq 7, 3) := by decide +kernel
theorem dn_M_reset_27 : decode bn_M_reset 27 = .ok (.return_, 1) := by decide +kernel
theorem dn_M_set_0 : decode bn_M_set 0 = .ok (.aload_n 0, 1) := by decide +kernel
theorem dn_M_set_1 : decode bn_M_set 1 = .ok (.aload_n 0, 1) := by decide +kernel
theorem dn_M_set_2 : decode bn_M_set 2 = .ok (.getfield 545, 3) := by decide +kernel
theorem dn_M_set_5 : decode bn_M_set 5 = .ok (.ifCond .ne 7, 3) := by decide +kernel
theorem dn_M_set_8 : decode bn_M_set 8 = .ok (.iconst 1, 1) := by decide +kernel
theorem dn_M_set_9 : decode bn_M_set 9 = .ok (.goto 48, 3) := by decide +kernel
theorem dn_M_set_57 : decode bn_M_set 57 = .ok (.putfield 192, 3) := by decide +kernel
theorem dn_M_set_60 : decode bn_M_set 60 = .ok (.aload_n 0, 1) := by decide +kernel
theorem dn_M_set_61 : decode bn_M_set 61 = .ok (.getfield 192, 3) := by decide +kernel
theorem dn_M_set_64 : decode bn_M_set 64 = .ok (.ifCond .ne 23, 3) := by decide +kernel
theorem dn_M_set_87 : decode bn_M_set 87 = .ok (.return_, 1) := by decide +kernel
theorem dn_M_shut_0 : decode bn_M_shut 0 = .ok (.aload_n 0, 1) := by decide +kernel
theorem dn_M_shut_1 : decode bn_M_shut 1 = .ok (.iload_n 1, 1) := by decide +kernel
theorem dn_M_shut_2 : decode bn_M_shut 2 = .ok (.invokevirtual 279, 3) := by decide +kernel
theorem dn_M_shut_5 : decode bn_M_shut 5 = .ok (.aload_n 0, 1) := by decide +kernel
theorem dn_M_shut_6 : decode bn_M_shut 6 = .ok (.dup, 1) := by decide +kernel
theorem dn_M_shut_7 : decode bn_M_shut 7 = .ok (.getfield 276, 3) := by decide +kernel
theorem dn_M_shut_10 : decode bn_M_shut 10 = .ok (.iconst 1, 1) := by decide +kernel
theorem dn_M_shut_11 : decode bn_M_shut 11 = .ok (.isub, 1) := by decide +kernel
theorem dn_M_shut_12 : decode bn_M_shut 12 = .ok (.putfield 276, 3) := by decide +kernel
theorem dn_M_shut_15 : decode bn_M_shut 15 = .ok (.return_, 1) := by decide +kernel
theorem dn_M_signal_0 : decode bn_M_signal 0 = .ok (.aload_n 0, 1) := by decide +kernel
theorem dn_M_signal_1 : decode bn_M_signal 1 = .ok (.aload_n 0, 1) := by decide +kernel
theorem dn_M_signal_2 : decode bn_M_signal 2 = .ok (.getfield 545, 3) := by decide +kernel
theorem dn_M_signal_5 : decode bn_M_signal 5 = .ok (.ifCond .ne 7, 3) := by decide +kernel
theorem dn_M_signal_8 : decode bn_M_signal 8 = .ok (.iconst 1, 1) := by decide +kernel
theorem dn_M_signal_9 : decode bn_M_signal 9 = .ok (.goto 29, 3) := by decide +kernel
theorem dn_M_signal_38 : decode bn_M_signal 38 = .ok (.putfield 192, 3) := by decide +kernel
theorem dn_M_signal_41 : decode bn_M_signal 41 = .ok (.aload_n 0, 1) := by decide +kernel
theorem dn_M_signal_42 : decode bn_M_signal 42 = .ok (.getfield 192, 3) := by decide +kernel
theorem dn_M_signal_45 : decode bn_M_signal 45 = .ok (.ifCond .le 5, 3) := by decide +kernel
theorem dn_M_signal_48 : decode bn_M_signal 48 = .ok (.iconst 0, 1) := by decide +kernel
theorem dn_M_signal_49 : decode bn_M_signal 49 = .ok (.ireturn, 1) := by decide +kernel
theorem dn_M_skip_0 : decode bn_M_skip 0 = .ok (.iload_n 1, 1) := by decide +kernel
theorem dn_M_skip_1 : decode bn_M_skip 1 = .ok (.istore_n 2, 1) := by decide +kernel
theorem dn_M_skip_2 : decode bn_M_skip 2 = .ok (.aload_n 0, 1) := by decide +kernel
theorem dn_M_skip_3 : decode bn_M_skip 3 = .ok (.iload_n 2, 1) := by decide +kernel
theorem dn_M_skip_4 : decode bn_M_skip 4 = .ok (.invokevirtual 206, 3) := by decide +kernel
theorem dn_M_skip_7 : decode bn_M_skip 7 = .ok (.istore_n 3, 1) := by decide +kernel
theorem dn_M_skip_8 : decode bn_M_skip 8 = .ok (.iload_n 3, 1) := by decide +kernel
theorem dn_M_skip_9 : decode bn_M_skip 9 = .ok (.bipush 9, 2) := by decide +kernel
theorem dn_M_skip_11 : decode bn_M_skip 11 = .ok (.if_icmp .eq 21, 3) := by decide +kernel
theorem dn_M_skip_14 : decode bn_M_skip 14 = .ok (.iload_n 3, 1) := by decide +kernel
theorem dn_M_skip_15 : decode bn_M_skip 15 = .ok (.bipush 10, 2) := by decide +kernel
theorem dn_M_skip_17 : decode bn_M_skip 17 = .ok (.if_icmp .eq 15, 3) := by decide +kernel
theorem dn_M_skip_20 : decode bn_M_skip 20 = .ok (.iload_n 3, 1) := by decide +kernel
theorem dn_M_skip_21 : decode bn_M_skip 21 = .ok (.bipush 13, 2) := by decide +kernel
theorem dn_M_skip_23 : decode bn_M_skip 23 = .ok (.if_icmp .eq 9, 3) := by decide +kernel
theorem dn_M_skip_26 : decode bn_M_skip 26 = .ok (.iload_n 3, 1) := by decide +kernel
theorem dn_M_skip_27 : decode bn_M_skip 27 = .ok (.bipush 32, 2) := by decide +kernel
theorem dn_M_skip_29 : decode bn_M_skip 29 = .ok (.if_icmp .ne 9, 3) := by decide +kernel
theorem dn_M_skip_38 : decode bn_M_skip 38 = .ok (.iload_n 3, 1) := by decide +kernel
theorem dn_M_skip_39 : decode bn_M_skip 39 = .ok (.bipush 47, 2) := by decide +kernel
theorem dn_M_skip_41 : decode bn_M_skip 41 = .ok (.if_icmp .ne 39, 3) := by decide +kernel
theorem dn_M_skip_80 : decode bn_M_skip 80 = .ok (.iload_n 3, 1) := by decide +kernel
theorem dn_M_skip_81 : decode bn_M_skip 81 = .ok (.bipush 47, 2) := by decide +kernel
theorem dn_M_skip_83 : decode bn_M_skip 83 = .ok (.if_icmp .ne 80, 3) := by decide +kernel
theorem dn_M_skip_163 : decode bn_M_skip 163 = .ok (.iload_n 2, 1) := by decide +kernel
theorem dn_M_skip_164 : decode bn_M_skip 164 = .ok (.ireturn, 1) := by decide +kernel
theorem dn_M_step_0 : decode bn_M_step 0 = .ok (.aload_n 0, 1) := by decide +kernel
theorem dn_M_step_1 : decode bn_M_step 1 = .ok (.aload_n 0, 1) := by decide +kernel
theorem dn_M_step_2 : decode bn_M_step 2 = .ok (.getfield 545, 3) := by decide +kernel
theorem dn_M_step_5 : decode bn_M_step 5 = .ok (.ifCond .eq 7, 3) := by decide +kernel
theorem dn_M_step_12 : decode bn_M_step 12 = .ok (.iconst 1, 1) := by decide +kernel
theorem dn_M_step_13 : decode bn_M_step 13 = .ok (.putfield 192, 3) := by decide +kernel
theorem dn_M_step_16 : decode bn_M_step 16 = .ok (.aload_n 0, 1) := by decide +kernel
theorem dn_M_step_17 : decode bn_M_step 17 = .ok (.getfield 192, 3) := by decide +kernel
theorem dn_M_step_20 : decode bn_M_step 20 = .ok (.ifCond .le 5, 3) := by decide +kernel
theorem dn_M_step_23 : decode bn_M_step 23 = .ok (.iconst 0, 1) := by decide +kernel
theorem dn_M_step_24 : decode bn_M_step 24 = .ok (.ireturn, 1) := by decide +kernel
theorem dn_M_take_0 : decode bn_M_take 0 = .ok (.aload_n 0, 1) := by decide +kernel
theorem dn_M_take_1 : decode bn_M_take 1 = .ok (.getfield 257, 3) := by decide +kernel
theorem dn_M_take_4 : decode bn_M_take 4 = .ok (.ifCond .ne 29, 3) := by decide +kernel
theorem dn_M_take_7 : decode bn_M_take 7 = .ok (.aload_n 0, 1) := by decide +kernel
theorem dn_M_take_8 : decode bn_M_take 8 = .ok (.getfield 15, 3) := by decide +kernel
theorem dn_M_take_11 : decode bn_M_take 11 = .ok (.aload_n 0, 1) := by decide +kernel
theorem dn_M_take_12 : decode bn_M_take 12 = .ok (.getfield 263, 3) := by decide +kernel
theorem dn_M_take_15 : decode bn_M_take 15 = .ok (.iaload, 1) := by decide +kernel
theorem dn_M_take_16 : decode bn_M_take 16 = .ok (.iload_n 1, 1) := by decide +kernel
theorem dn_M_take_17 : decode bn_M_take 17 = .ok (.if_icmp .ne 16, 3) := by decide +kernel
theorem dn_M_take_33 : decode bn_M_take 33 = .ok (.aload_n 0, 1) := by decide +kernel
theorem dn_M_take_34 : decode bn_M_take 34 = .ok (.invokevirtual 270, 3) := by decide +kernel
theorem dn_M_take_37 : decode bn_M_take 37 = .ok (.return_, 1) := by decide +kernel
theorem dn_M_thrown_0 : decode bn_M_thrown 0 = .ok (.aload_n 0, 1) := by decide +kernel
theorem dn_M_thrown_1 : decode bn_M_thrown 1 = .ok (.getfield 192, 3) := by decide +kernel
theorem dn_M_thrown_4 : decode bn_M_thrown 4 = .ok (.ireturn, 1) := by decide +kernel
theorem dn_M_token_0 : decode bn_M_token 0 = .ok (.aload_n 0, 1) := by decide +kernel
theorem dn_M_token_1 : decode bn_M_token 1 = .ok (.getfield 15, 3) := by decide +kernel
theorem dn_M_token_4 : decode bn_M_token 4 = .ok (.aload_n 0, 1) := by decide +kernel
theorem dn_M_token_5 : decode bn_M_token 5 = .ok (.getfield 231, 3) := by decide +kernel
theorem dn_M_token_8 : decode bn_M_token 8 = .ok (.iload_n 1, 1) := by decide +kernel
theorem dn_M_token_9 : decode bn_M_token 9 = .ok (.iastore, 1) := by decide +kernel
theorem dn_M_token_10 : decode bn_M_token 10 = .ok (.aload_n 0, 1) := by decide +kernel
theorem dn_M_token_11 : decode bn_M_token 11 = .ok (.getfield 19, 3) := by decide +kernel
theorem dn_M_token_14 : decode bn_M_token 14 = .ok (.aload_n 0, 1) := by decide +kernel
theorem dn_M_token_15 : decode bn_M_token 15 = .ok (.getfield 231, 3) := by decide +kernel
theorem dn_M_token_18 : decode bn_M_token 18 = .ok (.iload_n 2, 1) := by decide +kernel
theorem dn_M_token_19 : decode bn_M_token 19 = .ok (.iastore, 1) := by decide +kernel
theorem dn_M_token_20 : decode bn_M_token 20 = .ok (.aload_n 0, 1) := by decide +kernel
theorem dn_M_token_21 : decode bn_M_token 21 = .ok (.getfield 22, 3) := by decide +kernel
theorem dn_M_token_24 : decode bn_M_token 24 = .ok (.aload_n 0, 1) := by decide +kernel
theorem dn_M_token_25 : decode bn_M_token 25 = .ok (.getfield 231, 3) := by decide +kernel
theorem dn_M_token_28 : decode bn_M_token 28 = .ok (.iload_n 3, 1) := by decide +kernel
theorem dn_M_token_29 : decode bn_M_token 29 = .ok (.iastore, 1) := by decide +kernel
theorem dn_M_token_30 : decode bn_M_token 30 = .ok (.aload_n 0, 1) := by decide +kernel
theorem dn_M_token_31 : decode bn_M_token 31 = .ok (.dup, 1) := by decide +kernel
theorem dn_M_token_32 : decode bn_M_token 32 = .ok (.getfield 231, 3) := by decide +kernel
theorem dn_M_token_35 : decode bn_M_token 35 = .ok (.iconst 1, 1) := by decide +kernel
theorem dn_M_token_36 : decode bn_M_token 36 = .ok (.iadd, 1) := by decide +kernel
theorem dn_M_token_37 : decode bn_M_token 37 = .ok (.putfield 231, 3) := by decide +kernel
theorem dn_M_token_40 : decode bn_M_token 40 = .ok (.return_, 1) := by decide +kernel
theorem dn_M_value_0 : decode bn_M_value 0 = .ok (.aload_n 0, 1) := by decide +kernel
theorem dn_M_value_1 : decode bn_M_value 1 = .ok (.aload_n 0, 1) := by decide +kernel
theorem dn_M_value_2 : decode bn_M_value 2 = .ok (.getfield 545, 3) := by decide +kernel
theorem dn_M_value_5 : decode bn_M_value 5 = .ok (.ifCond .ne 7, 3) := by decide +kernel
theorem dn_M_value_8 : decode bn_M_value 8 = .ok (.iconst 1, 1) := by decide +kernel
theorem dn_M_value_9 : decode bn_M_value 9 = .ok (.goto 16, 3) := by decide +kernel
theorem dn_M_value_25 : decode bn_M_value 25 = .ok (.putfield 192, 3) := by decide +kernel
theorem dn_M_value_28 : decode bn_M_value 28 = .ok (.aload_n 0, 1) := by decide +kernel
theorem dn_M_value_29 : decode bn_M_value 29 = .ok (.getfield 192, 3) := by decide +kernel
theorem dn_M_value_32 : decode bn_M_value 32 = .ok (.ifCond .le 7, 3) := by decide +kernel
theorem dn_M_value_35 : decode bn_M_value 35 = .ok (.lconst 0, 1) := by decide +kernel
theorem dn_M_value_36 : decode bn_M_value 36 = .ok (.goto 9, 3) := by decide +kernel
theorem dn_M_value_45 : decode bn_M_value 45 = .ok (.lreturn, 1) := by decide +kernel
end
section
/-! Throwing methods over a world; methods with a table of handlers. -/
abbrev xs_u : Term := .static "java/lang/Throwable" "UNASSIGNED_STACK" "[Ljava/lang/StackTraceElement;"
abbrev xs_n : Term := .static "java/lang/Throwable" "SUPPRESSED_SENTINEL" "Ljava/util/List;"
def xs_L : List Cond := [.castable "java/lang/UnsupportedOperationException" "java/lang/UnsupportedOperationException", .castable "java/lang/IllegalArgumentException" "java/lang/IllegalArgumentException", .castable "java/lang/IllegalStateException" "java/lang/IllegalStateException", .castable "java/lang/IndexOutOfBoundsException" "java/lang/IndexOutOfBoundsException", .declares ⟨"java/lang/RuntimeException", "<init>", "()V"⟩, .declares ⟨"java/lang/Exception", "<init>", "()V"⟩, .declares ⟨"java/lang/Throwable", "<init>", "()V"⟩]
/-- what a throw and its catch read beside the tables' good words: the two statics hold a reference or null and are laid; the classes' own casts; the constructors above -/
def xs_St (U : State) : Prop := va_Zq "java/lang/Throwable" "UNASSIGNED_STACK" "[Ljava/lang/StackTraceElement;" (fun _ => False) U U.heap ∧ va_Zq "java/lang/Throwable" "SUPPRESSED_SENTINEL" "Ljava/util/List;" (fun _ => False) U U.heap ∧ (Cond.laysStatic "java/lang/Throwable" "UNASSIGNED_STACK" "[Ljava/lang/StackTraceElement;").before #[] U = true ∧ (Cond.laysStatic "java/lang/Throwable" "SUPPRESSED_SENTINEL" "Ljava/util/List;").before #[] U = true ∧ ∀ w ∈ xs_L, w.before #[] U = true
theorem xs_eq {C n d : String} {A B : Array Value} {U T : State} (hv : T.vm = U.vm) (hh : T.heap = U.heap) : (Cond.laysStatic C n d).before B T = (Cond.laysStatic C n d).before A U := by
  simp only [Cond.before, Cond.holds, Cond.value, State.fieldFound?]
  rw [hv, hh]
theorem xs_lays {C n d : String} {A B : Array Value} {s U : State} (hW : s.WarmedH U.vm) (hh : U.heap = s.heap) (h : (Cond.laysStatic C n d).before A s = true) : (Cond.laysStatic C n d).before B U = true := by
  have h1 : (Cond.laysStatic C n d).before A (s.setVm U.vm) = true := Cond.holds_shifted (State.Shifted.of_warmed hW) _ [] rfl h
  exact (xs_eq (T := U) (U := s.setVm U.vm) (A := A) (B := B) rfl hh).trans h1
theorem xs_cast {a b : String} {A B : Array Value} {s U : State} (hv : s.vm.Alike U.vm) (h : (Cond.castable a b).before A s = true) : (Cond.castable a b).before B U = true := by
  obtain ⟨c3, c4, h3, h4, h5⟩ := Cond.castable_spec h
  simp [Cond.before, Cond.holds, Cond.value, hv.findClass, hv.assignable, h3, h4, h5]
theorem xs_same {w : Cond} {A B : Array Value} {U T : State} (hw : w ∈ xs_L) (hv : T.vm = U.vm) (h : w.before A U = true) : w.before B T = true := by
  refine va_tabs ?_ hv.symm h
  simp only [xs_L, List.mem_cons, List.not_mem_nil, or_false] at hw
  rcases hw with rfl | rfl | rfl | rfl | rfl | rfl | rfl <;> rfl
theorem xs_mem {A : Array Value} {s U : State} (hW : s.WarmedH U.vm) (h : ∀ w ∈ xs_L, w.before #[] s = true) : ∀ w ∈ xs_L, w.before A U = true := by
  intro w hw
  have h0 := h w hw
  have hw' := hw
  simp only [xs_L, List.mem_cons, List.not_mem_nil, or_false] at hw
  rcases hw with rfl | rfl | rfl | rfl | rfl | rfl | rfl
  · exact xs_cast hW.alike h0
  · exact xs_cast hW.alike h0
  · exact xs_cast hW.alike h0
  · exact xs_cast hW.alike h0
  · exact va_Nw.use rfl (va_Nw.warmD hW h0)
  · exact va_Nw.use rfl (va_Nw.warmD hW h0)
  · exact va_Nw.use rfl (va_Nw.warmD hW h0)
theorem xs_any {C n d : String} {A B : Array Value} {U : State} (h : (Cond.isRef (.static C n d)).before A U = true) : (Cond.isRef (.static C n d)).before B U = true := h
theorem xs_of {C n d : String} {A : Nat → Prop} {B : Array Value} {U : State} (h : va_Zq C n d A U U.heap) : (Cond.isRef (.static C n d)).before B U = true := by
  rcases h with ⟨cf, kf, fi, f, a, cell, h1, h2, h3, h4, h5, h6, h7, h8⟩ | ⟨t, cf, kf, fi, f, a, cell, h1, h2, h3, h4, h5, h6, h7, h8⟩
  all_goals simp [Cond.before, Cond.holds, Cond.value, Term.eval, State.fieldNamed?, h1, h2, h3, h4, h5, h6, h7]
/-- it threw an object of the class cls, made nothing else, changed nothing -/
def xk_X (cls : String) : Array Value → State → Outcome → State → Prop := fun _ st o t =>
  (∃ (q : Addr) (ce : Cell), o = .threw q ∧ st.heap.size ≤ q ∧ t.heap[q]? = some ce ∧ ce.vm = .none ∧ st.vm.findClass cls = some ce.cls) ∧ (∀ r : Nat, r < st.heap.size → t.heap[r]? = st.heap[r]?) ∧ st.heap.size ≤ t.heap.size
def xk_PX (D : va_G) (cl : List vw_C) (tys : List (ClassId × FieldType)) (av : List Value) (sz : Nat) (ws : va_W) : Array Value → State → Prop := fun a U => xk_P D cl tys av sz ws a U ∧ xs_St U
theorem xk_blindX {D : va_G} {cl : List vw_C} {tys : List (ClassId × FieldType)} {av : List Value} {sz : Nat} {ws : va_W} : FrameBlind (xk_PX D cl tys av sz ws) := fun a U g mk q =>
  ⟨xk_blind _ _ _ _ q.1, va_Zq.moved (u := U) (U := U.calling g mk a) (Vm.Alike.refl U.vm) q.2.1, va_Zq.moved (u := U) (U := U.calling g mk a) (Vm.Alike.refl U.vm) q.2.2.1, (xs_eq (T := U.calling g mk a) (U := U) (A := #[]) rfl rfl).trans q.2.2.2.1, (xs_eq (T := U.calling g mk a) (U := U) (A := #[]) rfl rfl).trans q.2.2.2.2.1, fun w hw => xs_same (U := U) hw rfl (q.2.2.2.2.2 w hw)⟩
theorem xs_moved {s U : State} (h : xs_St s) (hh : U.heap = s.heap) (hW : s.WarmedH U.vm) : xs_St U := by
  refine ⟨?_, ?_, xs_lays hW hh h.2.2.1, xs_lays hW hh h.2.2.2.1, xs_mem hW h.2.2.2.2⟩
  · rw [hh]; exact h.1.moved hW.alike
  · rw [hh]; exact h.2.1.moved hW.alike
section XX
variable {p : Program} {l : Launch} {e : Env} {R : Room} {s : State} {m : MethodId} {args : Array Value} {below : List Frame} {meth : Method} {c : Code} {H : Heap} {locs : List Loc} {cells slots : Nat} {Q : State → Prop}
variable {cc : ByteArray} {pc : Nat} {ls : Array Slot} {rest st0 : List Value} {D : va_G} {cl : List vw_C} {A : Nat → Prop} {tys : List (ClassId × FieldType)} {ws wc wr : va_W} {H0 : Heap}
theorem xk_ofX {y : MethodName} {b : ByteArray} {n : Nat} {r : Option FieldType} {rm : Room} {av : List Value} {sz mc ms : Nat} {free : Addr → Prop} {Qc : Array Value → State → Outcome → State → Prop} (hy : plainName y.cls = true) (hn : (lg_sl av).length ≤ n)
    (body : ∀ (p : Program) (e : Env) (s : State) (m : MethodId) (below : List Frame) (meth : Method) (c : Code), p.tables.exec = Jvm.exec → c.code = b → c.maxLocals = n → s.vm.findClass y.cls = some m.cls → (∀ w ∈ xw_G, w.before av.toArray s = true) → meth.sig.returnType = r → meth.locks = false → (∀ x ∈ c.exceptionTable.toList, False) → xs_St s → va_P D cl ws s.heap → va_K D cl tys s → va_D (fun _ => True) ws → ∀ ls : Array Slot, lv_has ls n (lv_args 0 av) →
      W p l e rm s m av.toArray below meth c s.heap [] 0 0 (xc_MQ below Qc av.toArray s mc ms free) (F0 m 0 ls [])) : xc_Met l y (xw y b n r) rm (xk_PX D cl tys av sz ws) Qc mc ms free := by
  refine xc_ofW (cc := b) (maxL := n) (ret := r) hy rfl ?_
  intro p e s m args below meth c s₁ B hml hex hv
  obtain ⟨⟨rfl, hsz, hP, hK, hD0⟩, hst⟩ := hv
  have hts := atoms_spec (ws := xw y b n r) B.pre
  rw [lg_entry_eq]
  exact body p e s m below meth c B.exec B.bytes hml (findClass_of_methodNamed B.named) (fun w h => hts w (List.mem_cons_of_mem _ h)) B.returns B.notSynchronized hex hst hP hK hD0 _ (lv_entry av hn)
theorem xk_throw {own cls : String} {names : List String} {ik ic : Nat} {free : Addr → Prop} (hx : p.tables.exec = Jvm.exec) (hb : c.code = cc) (hl : l.stackTraces = false) (hown : s.vm.findClass own = some m.cls) (hg : ∀ w ∈ xw_G, w.before args s = true) (hst : xs_St s) (hsize : ls.size = c.maxLocals) (hlocks : meth.locks = false) (hex : ∀ x ∈ c.exceptionTable.toList, False)
    (hcls : Bundle.fit cls = true) (hnames : ∀ n ∈ names, Bundle.fit n = true) (hk : Cond.classLink own ik cls ∈ xw_G) (hini : Cond.initialized cls ∈ xw_G)
    (hat : ∀ w ∈ Bundle.ownAtoms0 own ic cls names, w ∈ xw_G ∨ w = .isRef xs_u ∨ w = .isRef xs_n ∨ w = .laysStatic "java/lang/Throwable" "UNASSIGNED_STACK" "[Ljava/lang/StackTraceElement;" ∨ w = .laysStatic "java/lang/Throwable" "SUPPRESSED_SENTINEL" "Ljava/util/List;" ∨ w ∈ xs_L)
    (hRc : 0 + 1 ≤ R.cells) (hRs : 0 + 6 ≤ R.slots) (hRf : names.length + 3 < R.frames) (hRl : 1 + (rest.map fun v => v.category).sum + (13 * (names.length + 1) + 41) ≤ R.locals)
    (d0 : decode cc pc = .ok (.new ik, 3)) (d3 : decode cc (pc + 3) = .ok (.dup, 1)) (d4 : decode cc (pc + 4) = .ok (.invokespecial ic, 3)) (d7 : decode cc (pc + 7) = .ok (.athrow, 1)) :
    W p l e R s m args below meth c s.heap [] 0 0 (xc_MQ below (xk_X cls) args s 1 6 free) (F0 m pc ls rest) := by
  refine xc_throw0 hx hb hl hown hcls hnames (hg _ hk) (hg _ hini) (fun w hw => ?_) hsize hlocks hex hRc hRs hRf hRl d0 d3 d4 d7 ?_
  · rcases hat w hw with h | rfl | rfl | rfl | rfl | h
    · exact hg _ h
    · exact xs_of hst.1
    · exact xs_of hst.2.1
    · exact (xs_eq (T := s) (U := s) (A := #[]) rfl rfl).trans hst.2.2.1
    · exact (xs_eq (T := s) (U := s) (A := #[]) rfl rfl).trans hst.2.2.2.1
    · exact xs_same (U := s) h rfl (hst.2.2.2.2 w h)
  · intro t q ce h1 h2 h3 h4 h5 h6 _
    exact ⟨⟨q, ce, rfl, h1, h2, h3, h4⟩, h5, h6⟩
/-- a method with a table of handlers: its entry -/
theorem xk_ofH {y : MethodName} {b : ByteArray} {n : Nat} {r : Option FieldType} {hh : List (Nat × Nat × Nat × Nat)} {rm : Room} {av : List Value} {sz mc ms : Nat} {QA : (Nat → Prop) → Array Value → State → Outcome → State → Prop} (hy : plainName y.cls = true) (hn : (lg_sl av).length ≤ n)
    (body : ∀ (p : Program) (e : Env) (s : State) (m : MethodId) (below : List Frame) (meth : Method) (c : Code), p.tables.exec = Jvm.exec → c.code = b → c.maxLocals = n → s.vm.findClass y.cls = some m.cls → (∀ w ∈ xw_G, w.before av.toArray s = true) → meth.sig.returnType = r → meth.locks = false → c.exceptionTable.toList.map (fun h => (h.startPc, h.endPc, h.handlerPc, h.catchType)) = hh → xs_St s → va_P D cl ws s.heap → va_K D cl tys s → ∀ A : Nat → Prop, (∀ q : Nat, s.heap.size ≤ q → A q) → va_D A ws → va_S A s.heap s.heap [] → ∀ ls : Array Slot, lv_has ls n (lv_args 0 av) →
      W p l e rm s m av.toArray below meth c s.heap [] 0 0 (MQ below (QA A) av.toArray s mc ms A) (F0 m 0 ls [])) : Met l y (Cond.codeWith y b n r hh :: xw_G) rm (xk_PX D cl tys av sz ws) (QA (va_A ws sz)) mc ms (va_A ws sz) := by
  refine va_MetW (cc := b) (maxL := n) (ret := r) (hh := hh) hy rfl ?_
  intro p e s m args below meth c s₁ B hml hv
  obtain ⟨⟨rfl, hsz, hP, hK, hD0⟩, hst⟩ := hv
  subst hsz
  have hts := atoms_spec (ws := Cond.codeWith y b n r hh :: xw_G) B.pre
  obtain ⟨m9, meth9, c9, g1, g2, g3, -, -, g6, -⟩ := Cond.codeWith_spec (hts _ List.mem_cons_self)
  cases g1.symm.trans B.named
  cases g2.symm.trans B.method
  cases g3.symm.trans (Stand.of_body B).code
  rw [lg_entry_eq]
  exact body p e s m below meth c B.exec B.bytes hml (findClass_of_methodNamed B.named) (fun w h => hts w (List.mem_cons_of_mem _ h)) B.returns B.notSynchronized g6 hst hP hK _ (fun q h => Or.inr h) hD0.self va_S.rf _ (lv_entry av hn)
/-- a call of a method that throws, in a method whose table catches it -/
theorem xk_callX {y : MethodName} {b2 : ByteArray} {nL n2 i ar ci q0 : Nat} {r2 : Option FieldType} {rm : Room} {own cls name : String} {C : vw_C} {b : Addr} {As : List Value} {fs : List Value} (S : CallFix p m c cc nL s args xw_G own) (hK : va_K D cl tys s)
    (M : xc_Met l y (xw y b2 n2 r2) rm (xk_PX D cl tys (.ref b :: As) H.size wc) (xk_X cls) 1 6 (fun _ => False)) (hP : va_P D cl ws H) (hS : va_S A H0 H locs) (hPc : va_P D cl wc H) (hDc : va_D A wc) (hc : cl[ci]? = some C) (he : wc[q0]? = some (b, .inr (ci, fs)))
    (hst : xs_St s) (hH : H = s.heap)
    (h1 : Cond.methodLink own i y ∈ xw_G) (h2 : Cond.instanceMethod y ∈ xw_G) (h3 : Cond.selects C.1 y y ∈ xw_G) (h4 : Cond.initialized C.1 ∈ xw_G) (h5 : Cond.code y b2 n2 r2 ∈ xw_G) (hrc : rm.cells = 1) (hrs : rm.slots = 6)
    (hd : y.cls = C.1 ∧ y.cls ≠ "java/lang/invoke/MethodHandle" ∧ y.cls ≠ "java/lang/invoke/VarHandle" ∧ (parseMethodDescriptor y.desc).map (fun d => d.parameters.length) = some ar) (hR : rm.frames + 1 ≤ R.frames ∧ 8 + (n2 + 11) + rm.locals ≤ R.locals)
    (hn : As.length = ar) (hsize : ls.size = nL) (hstk : st0 = As.reverse ++ .ref b :: rest) (hw : (rest.map fun v => v.category).sum ≤ 8) (hdg : decode cc pc = .ok (.invokevirtual i, 3)) (hf : cells + 1 ≤ R.cells ∧ slots + 6 ≤ R.slots)
    {hh : List (Nat × Nat × Nat × Nat)} {sp ep hp ct : Nat} (htab : c.exceptionTable.toList.map (fun h => (h.startPc, h.endPc, h.handlerPc, h.catchType)) = (sp, ep, hp, ct) :: hh) (hcov : sp ≤ pc ∧ pc < ep) (hct : ct ≠ 0) (hlink : Cond.classLink own ct name ∈ xw_G) (hcast : Cond.castable cls name ∈ xs_L)
    (kk : ∀ (q : Addr) (H1 : Heap), va_P D cl ws H1 → va_S A H0 H1 locs → W p l e R s m args below meth c H1 locs (cells + 1) (slots + 6) Q (F0 m hp ls [.ref q])) : W p l e R s m args below meth c H locs cells slots Q (F0 m pc ls st0) := by
  obtain ⟨x, tl, htl⟩ : ∃ x tl, c.exceptionTable.toList = x :: tl := by
    cases hcx : c.exceptionTable.toList with
    | nil => rw [hcx] at htab; cases htab
    | cons x tl => exact ⟨x, tl, rfl⟩
  rw [htl] at htab
  obtain ⟨e1, e2⟩ := List.cons.inj htab
  obtain ⟨ea, eb, ec, ed⟩ : x.startPc = sp ∧ x.endPc = ep ∧ x.handlerPc = hp ∧ x.catchType = ct := by
    have := e1
    simp only [Prod.mk.injEq] at this
    exact this
  have hg := S.2.2.2.2
  refine xc_callV (As := As) (rest := rest) (C := C.1) S M (cwV ar hg (xw_gV h1 h2 h3 h4 h5) rfl hrc hrs hd hR) ⟨xk_blindX, va_recv hK hPc hc he, fun U hU hW => ⟨⟨rfl, by rw [hU], by rw [hU]; exact hPc, va_K.moved hW.alike hK, hDc.weaken (fun _ _ _ _ => trivial)⟩, xs_moved hst (by rw [hU, hH]) hW⟩⟩ rfl hn hsize hstk (lv_room hw) hdg hf ?_ ?_
  · intro v st₀ t L _ _ hq _
    obtain ⟨⟨q, ce, ho, -⟩, -⟩ := hq
    cases ho
  · intro q st₀ t L hh0 hal hal0 hq hL
    obtain ⟨⟨q', ce, ho, g1, g2, g3, g4⟩, g5, g6⟩ := hq
    cases ho
    have hLn : L = [] := by
      cases L with
      | nil => rfl
      | cons z _ => exact (hL z List.mem_cons_self).elim
    subst hLn
    rw [hh0] at g5 g6
    rw [List.append_nil]
    have hcls : s.vm.findClass cls = some ce.cls := by rw [← hal0.findClass]; exact g4
    obtain ⟨k9, hk9, -⟩ := Vm.findClass_spec hcls
    refine xc_catch (x := x) (pre := []) (rest := tl) rfl g2 g3 ⟨k9, hk9⟩ htl (fun _ _ y hy => by cases hy) (fun pl hpl => ?_) ?_
    · obtain ⟨c3, c4, hc3, hc4, hasg⟩ := Cond.castable_spec (hst.2.2.2.2 _ hcast)
      cases Option.some.inj (hc3.symm.trans hcls)
      obtain ⟨c5, hc5, hcl5⟩ := Cond.classLink_spec S.2.2.2.1 (hg _ hlink) pl hpl
      cases Option.some.inj (hc4.symm.trans hc5)
      refine ⟨?_, by rw [ed]; exact hct, c4, by rw [ed]; exact hcl5, hasg⟩
      simp only [covers, ea, eb]
      have := hcov.1
      have := hcov.2
      simp [*]
    · rw [ec]
      refine kk q t.heap (hP.kept (fun k z hz => g5 z.1 ((hP k z hz).lt))) ⟨Nat.le_trans hS.1 g6, fun r h1 h2 => ?_, hS.2.2⟩
      rw [g5 r (Nat.lt_of_lt_of_le h1 hS.1)]
      exact hS.2.1 r h1 h2
/-- a call (invokestatic) of a method with a table of handlers -/
theorem xk_runSH {y : MethodName} {b2 : ByteArray} {nL n2 i ar mc ms : Nat} {r2 : Option FieldType} {hh : List (Nat × Nat × Nat × Nat)} {rm : Room} {own : String} {As : List Value} {Pc : Array Value → State → Prop} {Qc : Array Value → State → Outcome → State → Prop} {free : Addr → Prop} (S : CallFix p m c cc nL s args xw_G own)
    (M : Met l y (Cond.codeWith y b2 n2 r2 hh :: xw_G) rm Pc Qc mc ms free) (hbl : FrameBlind Pc) (hPc : ∀ U : State, U.heap = H → s.WarmedH U.vm → Pc As.toArray U)
    (h1 : Cond.methodLink own i y ∈ xw_G) (h2 : Cond.static y ∈ xw_G) (h4 : Cond.initialized y.cls ∈ xw_G) (h5 : Cond.codeWith y b2 n2 r2 hh ∈ xw_G) (hrc : rm.cells = mc) (hrs : rm.slots = ms)
    (hd : y.cls ≠ "java/lang/invoke/MethodHandle" ∧ y.cls ≠ "java/lang/invoke/VarHandle" ∧ (parseMethodDescriptor y.desc).map (fun d => d.parameters.length) = some ar) (hR : rm.frames + 1 ≤ R.frames ∧ 8 + (n2 + 11) + rm.locals ≤ R.locals)
    (hn : As.length = ar) (hsize : ls.size = nL) (hst : st0 = As.reverse ++ rest) (hw : (rest.map fun v => v.category).sum ≤ 8) (hdg : decode cc pc = .ok (.invokestatic i, 3)) (hf : cells + mc ≤ R.cells ∧ slots + ms ≤ R.slots) :
    va_Run p l e R s m args below meth c H locs cells slots mc ms (F0 m pc ls st0) rest (Qc As.toArray) free := by
  obtain ⟨hx, hb, hml, ho, hg⟩ := S
  have hws : ∀ w ∈ (Cond.codeWith y b2 n2 r2 hh :: xw_G), ∀ (a' : Array Value) (U : State), s.WarmedH U.vm → w.before a' U = true := fun w hw a' U hW => by
    rcases List.mem_cons.mp hw with rfl | hw
    · exact word_at hW (xw_good h5) (hg _ h5)
    · exact word_at hW (xw_good hw) (hg _ hw)
  have hK : Back l R p e below s args y 3 8 (PreOf R mc ms Pc) (PostOf Qc mc ms free) := va_backW (hh := hh) (bytes := b2) (maxL := n2) (ret := r2) M hbl hrc hrs hR.1 hR.2 hws List.mem_cons_self (fun a' U hW => word_at hW (xw_good h4) (hg _ h4))
  intro T hT X
  obtain ⟨mk, methM, cM, hnamed, hmethM, -, -, -, -, -, -, hsigM⟩ := Cond.codeWith_spec (hg _ h5)
  have hstatic : methM.isStatic = true := Cond.static_spec hnamed hmethM (hg _ h2)
  obtain ⟨kP, hkP, -⟩ := className_of_methodNamed hnamed
  have hinitP : kP.init = .initialized := Cond.initialized_spec (findClass_of_methodNamed hnamed) hkP (hg _ h4)
  have hlen : As.length = methM.sig.parameters.length := by
    have h := hd.2.2
    rw [hsigM] at h
    rw [hn]
    exact (Option.some.inj h).symm
  obtain ⟨vm₁, X₁, hstep₁⟩ := X.invokestatic hx ho (hg _ h1) hnamed hmethM hstatic hkP hinitP ⟨hd.1, hd.2.1⟩ (g := F0 m pc ls st0) rfl (argsL := As) (rest := rest) hlen hst (by rw [hb]; exact hdg)
  obtain ⟨v, ⟨U', l2, c2, s2⟩, X', ⟨g', mk', t, L, e1, e2, hq, q1, hL, q2, q3⟩, hsteps⟩ := hK m meth c ⟨T.setVm vm₁, locs, cells, slots⟩ { F0 m pc ls st0 with stack := rest } (.invokestatic i) mk As.toArray X₁ rfl (by rw [hml]; exact hsize) (by rw [hb]; exact hdg) (lv_room hw) (X₁.named hnamed) ⟨hf.1, hf.2, hPc (T.setVm vm₁) hT X₁.warmed⟩
  dsimp only [Pt.U, Pt.locs, Pt.cells, Pt.slots] at X' e1 e2 q1 q2 q3 hsteps
  subst q1; subst q2; subst q3
  exact ⟨v, (T.setVm vm₁).calling g' mk' As.toArray, t, U', L, hT, X', hL, e1, e2, hq, fun target h => hstep₁ _ fun acts => by rw [doInvoke_state]; exact hsteps.trans h⟩
end XX
end
section
/-! At the law's entry: the classes' numbers, the array classes, what a throw reads. -/
theorem xl_arr {ty : FieldType} {args : Array Value} {s : State} (h : (Cond.arrayClass ty).before args s = true) (hra : ∀ c : ClassId, s.vm.findClass ("[" ++ ty.toString) = some c → va_RA s c ty) : ∃ cA : ClassId, ArrOfT s cA ty ∧ va_RA s cA ty := by
  obtain ⟨cA, kA, comp, h1, h2, h3⟩ := Cond.arrayClass_spec h
  exact ⟨cA, fun n z => ⟨fun k h => (by cases h), kA, h2, comp, h3⟩, hra _ h1⟩
theorem xl_K {args : Array Value} {s : State} (hg : ∀ w ∈ xw_G, w.before args s = true) : ∃ (dC : Nat → ClassId) (dI : Nat → Nat → Nat) (cI cB cJ cZ : ClassId), va_K (dC, dI) xcl (xt cI cB cJ cZ) s := by
  obtain ⟨c0, i0, hK0⟩ := u_known (C := rn_M) (T := fn_M) (N := 91) hg in_M (hg _ wn_8_83)
  obtain ⟨c1, i1, hK1⟩ := u_known (C := rn_C) (T := fn_C) (N := 11) hg in_C (hg _ wn_1_31)
  obtain ⟨c2, i2, hK2⟩ := u_known (C := rn_Tokens) (T := fn_Tokens) (N := 11) hg in_Tokens (hg _ wn_1_39)
  obtain ⟨c3, i3, hK3⟩ := u_known (C := rn_Scanner) (T := fn_Scanner) (N := 10) hg in_Scanner (hg _ wn_1_90)
  obtain ⟨c4, i4, hK4⟩ := u_known (C := rn_Checker) (T := fn_Checker) (N := 14) hg in_Checker (hg _ wn_1_128)
  obtain ⟨c5, i5, hK5⟩ := u_known (C := rn_Meaning) (T := fn_Meaning) (N := 17) hg in_Meaning (hg _ wn_1_183)
  obtain ⟨c6, i6, hK6⟩ := u_known (C := rn_Grammar) (T := fn_Grammar) (N := 15) hg in_Grammar (hg _ wn_1_181)
  obtain ⟨c7, i7, hK7⟩ := u_known (C := rn_Order) (T := fn_Order) (N := 10) hg in_Order (hg _ wn_2_51)
  obtain ⟨c8, i8, hK8⟩ := u_known (C := rn_Machine) (T := fn_Machine) (N := 5) hg in_Machine (hg _ wn_2_88)
  obtain ⟨c9, i9, hK9⟩ := u_known (C := rn_Circuit) (T := fn_Circuit) (N := 14) hg in_Circuit (hg _ wn_2_111)
  obtain ⟨c10, i10, hK10⟩ := u_known (C := rn_Design) (T := fn_Design) (N := 16) hg in_Design (hg _ wn_2_117)
  obtain ⟨c11, i11, hK11⟩ := u_known (C := rn_Parts) (T := fn_Parts) (N := 18) hg in_Parts (hg _ wn_2_123)
  obtain ⟨c12, i12, hK12⟩ := u_known (C := rn_Code) (T := fn_Code) (N := 6) hg in_Code (hg _ wn_2_220)
  obtain ⟨cI, aI, rI⟩ := xl_arr (ty := .int) (hg _ wn_1_88) (fun _ h => h)
  obtain ⟨cB, aB, rB⟩ := xl_arr (ty := .byte) (hg _ wn_1_87) (fun _ h => h)
  obtain ⟨cJ, aJ, rJ⟩ := xl_arr (ty := .long) (hg _ wn_2_109) (fun _ h => h)
  obtain ⟨cZ, aZ, rZ⟩ := xl_arr (ty := .boolean) (hg _ wn_9_124) (fun _ h => h)
  refine ⟨fun k => if k = 0 then c0 else if k = 1 then c1 else if k = 2 then c2 else if k = 3 then c3 else if k = 4 then c4 else if k = 5 then c5 else if k = 6 then c6 else if k = 7 then c7 else if k = 8 then c8 else if k = 9 then c9 else if k = 10 then c10 else if k = 11 then c11 else c12, fun k => if k = 0 then i0 else if k = 1 then i1 else if k = 2 then i2 else if k = 3 then i3 else if k = 4 then i4 else if k = 5 then i5 else if k = 6 then i6 else if k = 7 then i7 else if k = 8 then i8 else if k = 9 then i9 else if k = 10 then i10 else if k = 11 then i11 else i12, cI, cB, cJ, cZ, ?_, ?_⟩
  · intro k q hq
    match k, hq with
    | 0, hq => cases hq; exact hK0
    | 1, hq => cases hq; exact hK1
    | 2, hq => cases hq; exact hK2
    | 3, hq => cases hq; exact hK3
    | 4, hq => cases hq; exact hK4
    | 5, hq => cases hq; exact hK5
    | 6, hq => cases hq; exact hK6
    | 7, hq => cases hq; exact hK7
    | 8, hq => cases hq; exact hK8
    | 9, hq => cases hq; exact hK9
    | 10, hq => cases hq; exact hK10
    | 11, hq => cases hq; exact hK11
    | 12, hq => cases hq; exact hK12
    | k + 13, hq => simp [xcl] at hq
  · intro k q hq
    match k, hq with
    | 0, hq => cases hq; exact ⟨aI, rI⟩
    | 1, hq => cases hq; exact ⟨aB, rB⟩
    | 2, hq => cases hq; exact ⟨aJ, rJ⟩
    | 3, hq => cases hq; exact ⟨aZ, rZ⟩
    | k + 4, hq => simp at hq
theorem xl_lays {C n d : String} {A B : Array Value} {s U : State} (hW : s.WarmedH U.vm) (hk : ∀ q : Nat, q < s.heap.size → U.heap[q]? = s.heap[q]?) (h : (Cond.laysStatic C n d).before A s = true) : (Cond.laysStatic C n d).before B U = true := by
  have h1 : (Cond.laysStatic C n d).before A (s.setVm U.vm) = true := Cond.holds_shifted (State.Shifted.of_warmed hW) _ [] rfl h
  obtain ⟨c, k, i, f, a, cell, g1, g2, g3, g4, g5, g6, g7, g8, g9⟩ := Cond.laysStatic_spec h1
  have g5' : U.heap[a]? = some cell := by
    have h5 : s.heap[a]? = some cell := g5
    rw [hk a (Array.getElem?_eq_some_iff.mp h5).1]; exact h5
  have g1' : U.vm.findClass C = some c := g1
  have g2' : U.fieldFound? C n d = some (c, k, i, f) := g2
  simp [Cond.before, Cond.holds, Cond.value, g1', g2', g3, g4, g5', g6, g7, g8, g9]
/-- what a throw reads, at any later state of the law's run -/
theorem xl_St {args : Array Value} {s U : State} (hts : ∀ w ∈ lw_tbl, w.before args s = true) (h1 : (Cond.isRef xs_u).before args s = true) (h2 : (Cond.isRef xs_n).before args s = true) (hW : s.WarmedH U.vm) (hk : ∀ q : Nat, q < s.heap.size → U.heap[q]? = s.heap[q]?) : xs_St U := by
  have t1 : (Cond.laysStatic "java/lang/Throwable" "UNASSIGNED_STACK" "[Ljava/lang/StackTraceElement;").before args s = true := hts _ (List.mem_append_right _ (by decide +kernel))
  have t2 : (Cond.laysStatic "java/lang/Throwable" "SUPPRESSED_SENTINEL" "Ljava/util/List;").before args s = true := hts _ (List.mem_append_right _ (by decide +kernel))
  have t3 : (Cond.initialized "java/lang/Throwable").before args s = true := hts _ (List.mem_append_right _ (by decide +kernel))
  have z1 := va_Zqof (A := fun _ => False) t1 t3 h1 (fun _ _ h => h)
  have z2 := va_Zqof (A := fun _ => False) t2 t3 h2 (fun _ _ h => h)
  refine ⟨(z1.kept (fun a h _ => hk a h)).moved hW.alike, (z2.kept (fun a h _ => hk a h)).moved hW.alike, xl_lays hW hk t1, xl_lays hW hk t2, xs_mem hW ?_⟩
  have key : ∀ w ∈ xs_L, w ∈ tables_1 := by decide +kernel
  intro w hw
  exact xs_same (U := s) (T := s) hw rfl (hts w (List.mem_append_right _ (key w hw)))
end
