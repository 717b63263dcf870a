/-! A throw that comes out of a callee: the walk stands at 'throwing q' over the caller's frame g; it is caught by a row of the caller's table. -/
def xc_W (p : Program) (l : Launch) (e : Env) (R : Room) (s : State) (m : MethodId) (args : Array Value) (below : List Frame) (meth : Method) (c : Code) (H : Heap) (locs : List Loc) (cells slots : Nat) (Q : State → Prop) (g : JFrame) (q : Addr) : Prop :=
  ∀ T : State, T.heap = H → Stand p l e R s m args below meth c T locs cells slots → ∃ t, Steps p.tables e below ((T.setTop g).pushFrame (.throwing q)) t ∧ Q t
/-- a row of the table that covers pc, its class linked; b: whether an object of class cT is one -/
def xc_Row (pl : Platform) (s : State) (d : ClassId) (pc : Nat) (cT : ClassId) (b : Bool) (y : ExceptionTableEntry) : Prop :=
  covers y pc = true ∧ y.catchType ≠ 0 ∧ ∃ c, s.vm.ClassLinks pl d y.catchType c ∧ s.vm.assignable cT c = b
theorem xc_goOne {Q : Handler → Pre} {E : CtlPost} {e : Env} {d : Bool} {acts : List Action} {s : State} {f : JFrame} {a : Addr} {x : ExceptionTableEntry} {t : List ExceptionTableEntry} {c : ClassId} {cell : Cell} {b : Bool} (hx : covers x f.pc = true) (h0 : x.catchType ≠ 0)
    (hl : s.vm.ClassLinks e.platform f.method.cls x.catchType c) (hcell : s.heap[a]? = some cell) (hobj : ∀ k, cell.vm ≠ .statics k)
    (hk : ∃ k, s.vm.classes[cell.cls]? = some k) (hc : ∃ k, s.vm.classes[c]? = some k) (hb : s.vm.assignable cell.cls c = b) :
    wp (findHandler.go f a (x :: t)) Q E e d acts s ↔ if b = true then Q (.found x.handlerPc) d acts (s.setVm (s.vm.noted f.method.cls x.catchType (.cls c))) else wp (findHandler.go f a t) Q E e d acts (s.setVm (s.vm.noted f.method.cls x.catchType (.cls c))) := by
  obtain ⟨g1, g2⟩ := (resolveClass_links e.toSetting hl).op (op := VmOp.resolveClass f.method.cls x.catchType) rfl
  have al : s.vm.Alike (s.vm.noted f.method.cls x.catchType (.cls c)) := (Vm.Alike.refl s.vm).noted _ _ _
  obtain ⟨k1, hk⟩ := hk
  obtain ⟨k2, hc⟩ := hc
  obtain ⟨k3, hk3, -⟩ := al.2.2 _ _ hk
  obtain ⟨k4, hk4, -⟩ := al.2.2 _ _ hc
  rw [← al.assignable] at hb
  simp only [covers] at hx
  cases b <;> simp [findHandler.go, hx, h0, g1, g2, hcell, hobj, hk3, hk4, hb, VmOp.dirties, VmOp.acts]
theorem xc_find {e : Env} {s₀ : State} {f : JFrame} {a : Addr} {cell : Cell} (hobj : ∀ k, cell.vm ≠ .statics k) (hk0 : ∃ k, s₀.vm.classes[cell.cls]? = some k) (x : ExceptionTableEntry) (rest : List ExceptionTableEntry) (hx : xc_Row e.platform s₀ f.method.cls f.pc cell.cls true x) :
    ∀ (pre : List ExceptionTableEntry) (S : State), s₀.WarmedH S.vm → S.heap[a]? = some cell → (∀ y ∈ pre, covers y f.pc = false ∨ xc_Row e.platform s₀ f.method.cls f.pc cell.cls false y) →
      ∃ vm', s₀.WarmedH vm' ∧ ∀ (Q : Handler → Pre) (E : CtlPost) (d : Bool) (acts : List Action), wp (findHandler.go f a (pre ++ x :: rest)) Q E e d acts S ↔ Q (.found x.handlerPc) d acts (S.setVm vm') := by
  obtain ⟨k0, hk0⟩ := hk0
  intro pre
  induction pre with
  | nil =>
    intro S hW hc _
    obtain ⟨k1, hk1, -⟩ := hW.alike.2.2 _ _ hk0
    obtain ⟨h1, h2, cT, hl, hb⟩ := hx
    obtain ⟨dk, _, _, kt, hd, _, _, _, _, hkt, _, hopen⟩ := hl.here
    obtain ⟨k2, hk2, -⟩ := hW.alike.2.2 _ _ hkt
    refine ⟨_, hW.noted hd hopen (State.rightAt_cls hl), fun Q E d acts => ?_⟩
    rw [List.nil_append, xc_goOne h1 h2 (hW.classLinks hl) hc hobj ⟨k1, hk1⟩ ⟨k2, hk2⟩ (b := true) (by rw [hW.alike.assignable]; exact hb), if_pos rfl]
  | cons y ys ih =>
    intro S hW hc hp
    obtain ⟨k1, hk1, -⟩ := hW.alike.2.2 _ _ hk0
    rcases hp y List.mem_cons_self with h | ⟨h1, h2, cT, hl, hb⟩
    · obtain ⟨vm', g1, g2⟩ := ih S hW hc (fun z hz => hp z (List.mem_cons_of_mem _ hz))
      refine ⟨vm', g1, fun Q E d acts => ?_⟩
      rw [List.cons_append, W.findHandler_go_skip h]
      exact g2 Q E d acts
    · obtain ⟨dk, _, _, kt, hd, _, _, _, _, hkt, _, hopen⟩ := hl.here
      obtain ⟨k2, hk2, -⟩ := hW.alike.2.2 _ _ hkt
      obtain ⟨vm', g1, g2⟩ := ih (S.setVm (S.vm.noted f.method.cls y.catchType (.cls cT))) (hW.noted hd hopen (State.rightAt_cls hl)) hc (fun z hz => hp z (List.mem_cons_of_mem _ hz))
      refine ⟨vm', g1, fun Q E d acts => ?_⟩
      rw [List.cons_append, xc_goOne h1 h2 (hW.classLinks hl) hc hobj ⟨k1, hk1⟩ ⟨k2, hk2⟩ (b := false) (by rw [hW.alike.assignable]; exact hb), if_neg (by decide)]
      exact g2 Q E d acts
section XC2
variable {p : Program} {l : Launch} {e : Env} {R : Room} {s : State} {m : MethodId} {args : Array Value} {below : List Frame} {meth : Method} {c : Code} {H : Heap} {locs : List Loc} {cells slots : Nat} {Q : State → Prop}
theorem xc_catch {g : JFrame} {q : Addr} {cell : Cell} (hg : g.method = m) (hcell : H[q]? = some cell) (hv : cell.vm = .none) (hk0 : ∃ k, s.vm.classes[cell.cls]? = some k)
    (pre : List ExceptionTableEntry) (x : ExceptionTableEntry) (rest : List ExceptionTableEntry) (hsplit : c.exceptionTable.toList = pre ++ x :: rest)
    (hpass : ∀ pl : Platform, pl.magicAccessors = ({} : Platform).magicAccessors → ∀ y ∈ pre, covers y g.pc = false ∨ xc_Row pl s m.cls g.pc cell.cls false y) (hx : ∀ pl : Platform, pl.magicAccessors = ({} : Platform).magicAccessors → xc_Row pl s m.cls g.pc cell.cls true x)
    (kk : W p l e R s m args below meth c H locs cells slots Q { g with pc := x.handlerPc, stack := [.ref q] }) : xc_W p l e R s m args below meth c H locs cells slots Q g q := by
  subst hg
  intro T hT X
  have hpl : e.platform.magicAccessors = ({} : Platform).magicAccessors := by rw [X.admits.platform]
  have hvm : ((T.setTop g).pushFrame (.throwing q)).vm = T.vm := throwing_vm T g q
  have hhp : ((T.setTop g).pushFrame (.throwing q)).heap = T.heap := throwing_heap T g q
  obtain ⟨vm', hW', hf⟩ := xc_find (e := e) (s₀ := s) (f := g) (a := q) (cell := cell) (fun k h => by rw [hv] at h; cases h) hk0 x rest (hx _ hpl) pre ((T.setTop g).pushFrame (.throwing q)) (by rw [hvm]; exact X.warmed) (by rw [hhp, hT]; exact hcell) (hpass _ hpl)
  have hfind : ∀ (Q : Handler → Pre) (E : CtlPost) (d : Bool) (acts : List Action), wp (findHandler g q) Q E e d acts ((T.setTop g).pushFrame (.throwing q)) ↔ Q (.found x.handlerPc) d acts (((T.setTop g).pushFrame (.throwing q)).setVm vm') := fun Q E d acts => by
    rw [W.findHandler_eq (by rw [hvm]; exact X.method') X.code, hsplit]
    exact hf Q E d acts
  obtain ⟨t, a1, b1⟩ := kk (T.setVm vm') hT (X.noted hW')
  refine ⟨t, ?_, b1⟩
  obtain ⟨hgo, hw⟩ := X.here.throwing q
  refine Steps.head hgo hw ?_
  have hstep : (stepThrowing e ((T.setTop g).pushFrame (.throwing q)) q (.java g :: T.frames.tail)).1 = (((T.setTop g).pushFrame (.throwing q)).setVm vm').setFrames (.java { g with pc := x.handlerPc, stack := [.ref q] } :: T.frames.tail) := by
    simp only [stepThrowing, searchFrame, vmDo]
    generalize hr : Sem.go _ e false [] ((T.setTop g).pushFrame (.throwing q)) = res
    obtain ⟨as, rfl, ha⟩ := Sem.eq_ok_of hr (a := Handler.found x.handlerPc) (s' := ((T.setTop g).pushFrame (.throwing q)).setVm vm') (acts' := []) (by simp [hfind _ _ _ _])
    rfl
  rw [stepThread_throwing (frames_entered X.here.top _), hstep]
  obtain ⟨g₀, hg0⟩ := Option.isSome_iff_exists.mp X.here.top
  obtain ⟨r, hr⟩ := State.topJava?_eq_some.mp hg0
  have hr' : (T.setVm vm').frames = .java g₀ :: r := hr
  have flip : ∀ (u : State) (F G : List Frame), ((u.setFrames F).setVm vm').setFrames G = (u.setVm vm').setFrames G := fun u F G => by
    rw [show (u.setFrames F).setVm vm' = (u.setVm vm').setFrames F from rfl, State.setFrames_setFrames]
  rw [State.setTop_of_frames _ hr'] at a1
  rw [hr, List.tail_cons, State.pushFrame, flip, State.setTop_of_frames _ hr, flip]
  exact a1
/-- a call (invokevirtual) of a method that may throw -/
theorem xc_callV {Ts ws : List Cond} {cc bytes : ByteArray} {nL maxL index n mc ms : Nat} {own C : String} {y : MethodName} {ret : Option FieldType} {rm : Room} {Pc : Array Value → State → Prop} {Qc : Array Value → State → Outcome → State → Prop} {free : Addr → Prop} {b : Addr} {As rest : List Value} {g : JFrame}
    (S : CallFix p m c cc nL s args Ts own) (hM : xc_Met l y ws rm Pc Qc mc ms free) (cw : CallW R s args own C index y bytes maxL ret ws rm mc ms n) (hp : PreV s H C b Pc As)
    (hg : g.method = m) (hn : As.length = n) (hsize : g.locals.size = nL) (hstack : g.stack = As.reverse ++ .ref b :: rest) (hW : 2 * g.monitorRoom + (rest.map fun v => v.category).sum ≤ 8) (hdg : decode cc g.pc = .ok (.invokevirtual index, 3)) (hf : cells + mc ≤ R.cells ∧ slots + ms ≤ R.slots)
    (kr : ∀ (v : Option Value) (st₀ t : State) (L : List Loc), st₀.heap = H → s.vm.Alike t.vm → Qc (Value.ref b :: As).toArray st₀ (.returned v) t → (∀ q ∈ L, free q.base) → W p l e R s m args below meth c t.heap (locs ++ L) (cells + mc) (slots + ms) Q { g with pc := g.pc + 3, stack := v.toList ++ rest })
    (kx : ∀ (q : Addr) (st₀ t : State) (L : List Loc), st₀.heap = H → s.vm.Alike t.vm → s.vm.Alike st₀.vm → Qc (Value.ref b :: As).toArray st₀ (.threw q) t → (∀ z ∈ L, free z.base) → xc_W p l e R s m args below meth c t.heap (locs ++ L) (cells + mc) (slots + ms) Q { g with stack := rest } q) :
    W p l e R s m args below meth c H locs cells slots Q g := by
  obtain ⟨⟨hrc, hrs, hfr, hlo, hws, hcw, hcode, hini, hy, hlen, hl⟩, hin, hse⟩ := cw
  obtain ⟨hx, hb, hml, ho, -⟩ := S
  obtain ⟨hbl, ⟨cellB, hcB, hoB, hclB⟩, hPc⟩ := hp
  intro T hT X
  subst hg
  obtain ⟨mk, methM, hnamed, hmethM, hstM, habM⟩ := Cond.instanceMethod_spec hin
  obtain ⟨methM', cM, hmethM', -, -, -, -, -, -, hsigM⟩ := Cond.code_spec hnamed hcode
  cases hmethM.symm.trans hmethM'
  obtain ⟨c2, r2, m2, q1, q2, q3, q4, kP, hkP, hkPi⟩ := Cond.selects_spec hse
  cases hclB.symm.trans q1
  cases (State.methodFound?_of_named hnamed hy).symm.trans q2
  cases hnamed.symm.trans q3
  have hselP : selectMethod e.platform s.vm cellB.cls mk = .method mk := by rw [Launch.admits_selectMethod X.admits]; exact q4
  obtain ⟨vm₁, X₁, hstep₁⟩ := X.invokevirtual hx ho hl hnamed hmethM hstM hkP hkPi hy (a := b) (cell := cellB) (by rw [hT]; exact hcB)
    (fun z h => by rw [h] at hoB; cases hoB) hselP hmethM habM hkP hkPi (g := g) rfl (argsL := As) (rest := rest) (by rw [hn]; exact hlen _ hsigM) hstack (by rw [hb]; exact hdg)
  generalize hU : T.setVm vm₁ = U at X₁ hstep₁
  have hUh : U.heap = H := by rw [← hU]; exact hT
  have hn₁ : U.methodNamed? y = some mk := X₁.named hnamed
  obtain ⟨methY, cY, hmY, hcY, -, hlY, -, -, -, -⟩ := Cond.code_spec hn₁ (hws _ hcw (Value.ref b :: As).toArray U X₁.warmed)
  obtain ⟨kY, hkY, -⟩ := className_of_methodNamed hn₁
  have hinitY : kY.init = .initialized := Cond.initialized_spec (args := (Value.ref b :: As).toArray) (findClass_of_methodNamed hn₁) hkY (word_at X₁.warmed (Or.inl (by first | rfl | simp [Cond.onTables, Cond.keeps, Cond.steady])) hini)
  have hdg' : decode c.code ({ g with stack := rest } : JFrame).pc = .ok (.invokevirtual index, 3) := by rw [hb]; exact hdg
  have happ : (headSpec ws rm).appliesLoose y e.platform (U.calling { g with stack := rest } mk (Value.ref b :: As).toArray) = true :=
    Spec.appliesLoose_calling (g := { g with stack := rest }) X₁.here hdg' hn₁ hkY hinitY
      (X₁.room_calling (g := { g with stack := rest }) (R' := rm) (by rw [hml]; exact hsize) hmY hcY hfr (by rw [hlY]; show 2 * g.monitorRoom + (rest.map fun v => v.category).sum + _ + _ ≤ _; omega) (by rw [hrc]; exact hf.1) (by rw [hrs]; exact hf.2)) (atoms_intro fun w hw => hws w hw _ _ X₁.warmed)
  have hfr0 : (U.setTop { g with stack := rest }).frames = [.java { g with stack := rest }] ++ below := by rw [State.frames_setTop' _ X₁.here.top, X₁.tail]; rfl
  obtain ⟨o, s₂, hsteps, -, hend, hq, L, hWt, hsame, hL⟩ := Steps.callFree hM p X₁.admits X₁.cas X₁.clock (acts := []) hfr0 happ (hbl _ _ _ _ (hPc U hUh X₁.warmed)) trivial
  rw [State.frames_setTop' _ X₁.here.top, X₁.tail] at hend
  have hst0 : (U.calling { g with stack := rest } mk (Value.ref b :: As).toArray).heap = H := hUh
  have hvm0 : s.vm.Alike (U.calling { g with stack := rest } mk (Value.ref b :: As).toArray).vm := X₁.warmed.alike
  cases o with
  | returned v =>
    obtain ⟨T', X', hw1, hsm, ht⟩ := X₁.outOf (g := { g with stack := rest }) rfl hdg' hend hWt hsame
    have e1 : s₂.heap = T'.heap := by rw [ht]; rfl
    have e2 : s₂.vm = T'.vm := by rw [ht]; rfl
    obtain ⟨t2, a1, b1⟩ := kr v _ s₂ L hst0 (by rw [e2]; exact X'.warmed.alike) hq hL T' e1.symm X'
    refine ⟨t2, hstep₁ _ fun acts => ?_, b1⟩
    rw [doInvoke_state]
    refine hsteps.trans ?_
    rw [ht]
    exact a1
  | threw q =>
    obtain ⟨T', X', hw1, hsm, ht⟩ := X₁.outOfThrown (g := { g with stack := rest }) rfl hend hWt hsame
    have e1 : s₂.heap = T'.heap := by rw [ht]; exact throwing_heap T' _ q
    have e2 : s₂.vm = T'.vm := by rw [ht]; exact throwing_vm T' _ q
    obtain ⟨t2, a1, b1⟩ := kx q _ s₂ L hst0 (by rw [e2]; exact X'.warmed.alike) hvm0 hq hL T' e1.symm X'
    refine ⟨t2, hstep₁ _ fun acts => ?_, b1⟩
    rw [doInvoke_state]
    refine hsteps.trans ?_
    rw [ht]
    exact a1
end XC2
