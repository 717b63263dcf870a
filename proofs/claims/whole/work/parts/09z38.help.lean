/-! Worlds side by side: a call knows its own part; the law's helpers. -/
theorem va_P_l {D : va_G} {cl : List vw_C} {w1 w2 : va_W} {H : Heap} (h : va_P D cl (w1 ++ w2) H) : va_P D cl w1 H := fun k q hk => h k q (by rw [List.getElem?_append_left (List.getElem?_eq_some_iff.mp hk).1]; exact hk)
theorem va_D_l {A : Nat → Prop} {w1 w2 : va_W} (h : va_D A (w1 ++ w2)) : va_D A w1 := by
  have key : ∀ (k : Nat) (q : Nat × va_E), w1[k]? = some q → (w1 ++ w2)[k]? = some q := fun k q hk => by rw [List.getElem?_append_left (List.getElem?_eq_some_iff.mp hk).1]; exact hk
  exact ⟨fun i j p q hi hj e => h.1 i j p q (key _ _ hi) (key _ _ hj) e, fun k q hk => h.2 k q (key _ _ hk)⟩
theorem va_sw {w1 w2 : va_W} {k : Nat} {q : Nat × va_E} (h : (w2 ++ w1)[k]? = some q) : (w1 ++ w2)[if k < w2.length then w1.length + k else k - w2.length]? = some q := by
  by_cases hk : k < w2.length
  · rw [List.getElem?_append_left hk] at h
    rw [if_pos hk, List.getElem?_append_right (by omega)]
    rw [show w1.length + k - w1.length = k by omega]; exact h
  · have hb := (List.getElem?_eq_some_iff.mp h).1
    rw [List.length_append] at hb
    rw [List.getElem?_append_right (by omega)] at h
    rw [if_neg hk, List.getElem?_append_left (by omega)]; exact h
theorem va_P_sw {D : va_G} {cl : List vw_C} {w1 w2 : va_W} {H : Heap} (h : va_P D cl (w1 ++ w2) H) : va_P D cl (w2 ++ w1) H := fun _ _ hk => h _ _ (va_sw hk)
theorem va_D_sw {A : Nat → Prop} {w1 w2 : va_W} (h : va_D A (w1 ++ w2)) : va_D A (w2 ++ w1) := by
  refine ⟨fun i j p q hi hj e => ?_, fun k q hk => h.2 _ q (va_sw hk)⟩
  have h1 := h.1 _ _ p q (va_sw hi) (va_sw hj) e
  have bi := (List.getElem?_eq_some_iff.mp hi).1
  have bj := (List.getElem?_eq_some_iff.mp hj).1
  rw [List.length_append] at bi bj
  by_cases c1 : i < w2.length
  · by_cases c2 : j < w2.length
    · rw [if_pos c1, if_pos c2] at h1; omega
    · rw [if_pos c1, if_neg c2] at h1; omega
  · by_cases c2 : j < w2.length
    · rw [if_neg c1, if_pos c2] at h1; omega
    · rw [if_neg c1, if_neg c2] at h1; omega
theorem dc_allA (ws pl : va_W) : (List.range ws.length).map (fun i => (ws ++ pl)[i]?) = ws.map some := by
  rw [← dc_all ws]
  apply List.map_congr_left
  intro i hi
  rw [List.getElem?_append_left (List.mem_range.mp hi)]
def xs_NL : List (String × String) := [("java/lang/IllegalArgumentException", "java/lang/IllegalStateException"), ("java/lang/IndexOutOfBoundsException", "java/lang/IllegalStateException"), ("java/lang/IllegalArgumentException", "java/lang/IndexOutOfBoundsException")]
/-- what is not an object of another class that is caught before it -/
def xs_No (U : State) : Prop := ∀ r ∈ xs_NL, ∃ ca cb : ClassId, U.vm.findClass r.1 = some ca ∧ U.vm.findClass r.2 = some cb ∧ U.vm.assignable ca cb = false
theorem xs_No.moved {s U : State} (hv : s.vm.Alike U.vm) (h : xs_No s) : xs_No U := fun r hr => by
  obtain ⟨ca, cb, h1, h2, h3⟩ := h r hr
  exact ⟨ca, cb, by rw [hv.findClass]; exact h1, by rw [hv.findClass]; exact h2, by rw [hv.assignable]; exact h3⟩
theorem xs_not {a b : String} {A : Array Value} {s : State} (h : (Cond.not (Cond.castable a b)).before A s = true) : ∃ ca cb : ClassId, s.vm.findClass a = some ca ∧ s.vm.findClass b = some cb ∧ s.vm.assignable ca cb = false := by
  cases h1 : s.vm.findClass a with
  | none => simp [Cond.before, Cond.holds, Cond.value, h1] at h
  | some ca =>
    cases h2 : s.vm.findClass b with
    | none => simp [Cond.before, Cond.holds, Cond.value, h1, h2] at h
    | some cb =>
      refine ⟨ca, cb, rfl, rfl, ?_⟩
      simpa [Cond.before, Cond.holds, Cond.value, h1, h2] using h
def dc_PX (D : va_G) (cl : List vw_C) (tys : List (ClassId × FieldType)) (av : List Value) (sz : Nat) (ws : va_W) : Array Value → State → Prop := fun a U => dc_P D cl tys av sz ws a U ∧ xs_No U ∧ xs_St U
theorem dc_blindX {D : va_G} {cl : List vw_C} {tys : List (ClassId × FieldType)} {av : List Value} {sz : Nat} {ws : va_W} : FrameBlind (dc_PX D cl tys av sz ws) := fun a U g mk q =>
  ⟨dc_blind _ _ _ _ q.1, q.2.1, va_Zq.moved (u := U) (U := U.calling g mk a) (Vm.Alike.refl U.vm) q.2.2.1, va_Zq.moved (u := U) (U := U.calling g mk a) (Vm.Alike.refl U.vm) q.2.2.2.1, (xs_eq (T := U.calling g mk a) (U := U) (A := #[]) rfl rfl).trans q.2.2.2.2.1, (xs_eq (T := U.calling g mk a) (U := U) (A := #[]) rfl rfl).trans q.2.2.2.2.2.1, fun w hw => xs_same (U := U) hw rfl (q.2.2.2.2.2.2 w hw)⟩
section HK
variable {p : Program} {l : Launch} {e : Env} {R : Room} {s : State} {m : MethodId} {args : Array Value} {below : List Frame} {meth : Method} {c : Code} {H : Heap} {locs : List Loc} {cells slots : Nat} {Q : State → Prop}
variable {cc : ByteArray} {pc : Nat} {ls : Array Slot} {rest st0 : List Value} {D : va_G} {cl : List vw_C} {A : Nat → Prop} {tys : List (ClassId × FieldType)} {ws wc pl : va_W} {H0 : Heap}
theorem dc_calliA {S : Type} {post : Int32 → S → Prop} {w1 : S → va_W} {mc ms : Nat} {a : Array Value} (hr : va_Run p l e R s m args below meth c H locs cells slots mc ms (F0 m pc ls st0) rest (xk_Qi D cl tys post w1 (va_A wc H.size) a) (va_A wc H.size)) (hP : va_P D cl (wc ++ pl) H) (hD : va_D A (wc ++ pl)) (hS : va_S A H0 H locs) (hA : ∀ q, H0.size ≤ q → A q)
    (kk : ∀ (r : Int32) (u : S) (H1 : Heap) (locs1 : List Loc), post r u → va_P D cl (w1 u ++ pl) H1 → va_D A (w1 u ++ pl) → va_S A H0 H1 locs1 → W p l e R s m args below meth c H1 locs1 (cells + mc) (slots + ms) Q (F0 m (pc + 3) ls (.int r :: rest))) : W p l e R s m args below meth c H locs cells slots Q (F0 m pc ls st0) := by
  have hF := va_free (wc := wc) hD hS hA (List.range wc.length) (dc_allA wc pl)
  refine va_calli hr hS (fun q _ h => hF q h) hF (fun r u t H1 locs1 ht hvm hw hB hz1 hk1 hS1 => ?_)
  obtain ⟨hP1, -, hD1⟩ := hB
  rw [ht] at hP1
  obtain ⟨hP2, hD2⟩ := va_joinQ (X := wc) (cx := wc) (wr := []) (w1 := w1 u) (pl := pl) hP hD (List.range wc.length) [] (dc_all wc) rfl rfl (fun _ h => by cases h) hk1 hF hP1 hD1
  exact kk r u H1 locs1 hw hP2 hD2 hS1
theorem dc_calllA {S : Type} {post : Int64 → S → Prop} {w1 : S → va_W} {mc ms : Nat} {a : Array Value} (hr : va_Run p l e R s m args below meth c H locs cells slots mc ms (F0 m pc ls st0) rest (xk_Ql D cl tys post w1 (va_A wc H.size) a) (va_A wc H.size)) (hP : va_P D cl (wc ++ pl) H) (hD : va_D A (wc ++ pl)) (hS : va_S A H0 H locs) (hA : ∀ q, H0.size ≤ q → A q)
    (kk : ∀ (r : Int64) (u : S) (H1 : Heap) (locs1 : List Loc), post r u → va_P D cl (w1 u ++ pl) H1 → va_D A (w1 u ++ pl) → va_S A H0 H1 locs1 → W p l e R s m args below meth c H1 locs1 (cells + mc) (slots + ms) Q (F0 m (pc + 3) ls (.long r :: rest))) : W p l e R s m args below meth c H locs cells slots Q (F0 m pc ls st0) := by
  have hF := va_free (wc := wc) hD hS hA (List.range wc.length) (dc_allA wc pl)
  refine va_calll hr hS (fun q _ h => hF q h) hF (fun r u t H1 locs1 ht hvm hw hB hz1 hk1 hS1 => ?_)
  obtain ⟨hP1, -, hD1⟩ := hB
  rw [ht] at hP1
  obtain ⟨hP2, hD2⟩ := va_joinQ (X := wc) (cx := wc) (wr := []) (w1 := w1 u) (pl := pl) hP hD (List.range wc.length) [] (dc_all wc) rfl rfl (fun _ h => by cases h) hk1 hF hP1 hD1
  exact kk r u H1 locs1 hw hP2 hD2 hS1
theorem dc_callvA {S : Type} {post : S → Prop} {w1 : S → va_W} {mc ms : Nat} {a : Array Value} (hr : va_Run p l e R s m args below meth c H locs cells slots mc ms (F0 m pc ls st0) rest (xk_Qv D cl tys post w1 (va_A wc H.size) a) (va_A wc H.size)) (hP : va_P D cl (wc ++ pl) H) (hD : va_D A (wc ++ pl)) (hS : va_S A H0 H locs) (hA : ∀ q, H0.size ≤ q → A q)
    (kk : ∀ (u : S) (H1 : Heap) (locs1 : List Loc), post u → va_P D cl (w1 u ++ pl) H1 → va_D A (w1 u ++ pl) → va_S A H0 H1 locs1 → W p l e R s m args below meth c H1 locs1 (cells + mc) (slots + ms) Q (F0 m (pc + 3) ls rest)) : W p l e R s m args below meth c H locs cells slots Q (F0 m pc ls st0) := by
  have hF := va_free (wc := wc) hD hS hA (List.range wc.length) (dc_allA wc pl)
  refine va_callv hr hS (fun q _ h => hF q h) hF (fun u t H1 locs1 ht hvm hw hB hz1 hk1 hS1 => ?_)
  obtain ⟨hP1, -, hD1⟩ := hB
  rw [ht] at hP1
  obtain ⟨hP2, hD2⟩ := va_joinQ (X := wc) (cx := wc) (wr := []) (w1 := w1 u) (pl := pl) hP hD (List.range wc.length) [] (dc_all wc) rfl rfl (fun _ h => by cases h) hk1 hF hP1 hD1
  exact kk u H1 locs1 hw hP2 hD2 hS1
/-- a method with a table of handlers: its entry -/
theorem dc_ofH {y : MethodName} {b : ByteArray} {n : Nat} {r : Option FieldType} {hh : List (Nat × Nat × Nat × Nat)} {rm : Room} {av : List Value} {sz mc ms : Nat} {QA : (Nat → Prop) → Array Value → State → Outcome → State → Prop} (hy : plainName y.cls = true) (hn : (lg_sl av).length ≤ n)
    (body : ∀ (p : Program) (e : Env) (s : State) (m : MethodId) (below : List Frame) (meth : Method) (c : Code), p.tables.exec = Jvm.exec → c.code = b → c.maxLocals = n → s.vm.findClass y.cls = some m.cls → (∀ w ∈ xw_G, w.before av.toArray s = true) → meth.sig.returnType = r → meth.locks = false → c.exceptionTable.toList.map (fun h => (h.startPc, h.endPc, h.handlerPc, h.catchType)) = hh → xs_No s → xs_St s → va_P D cl ws s.heap → va_K D cl tys s → xn_St s → ∀ A : Nat → Prop, (∀ q : Nat, s.heap.size ≤ q → A q) → va_D A ws → dc_St A s s.heap → ∀ ls : Array Slot, lv_has ls n (lv_args 0 av) →
      W p l e rm s m av.toArray below meth c s.heap [] 0 0 (MQ below (QA A) av.toArray s mc ms A) (F0 m 0 ls [])) : Met l y (Cond.codeWith y b n r hh :: xw_G) rm (dc_PX D cl tys av sz ws) (QA (va_A ws sz)) mc ms (va_A ws sz) := by
  refine va_MetW (cc := b) (maxL := n) (ret := r) (hh := hh) hy rfl ?_
  intro p e s m args below meth c s₁ B hml hv
  obtain ⟨⟨rfl, hsz, hP, hK, hD0, hN, hT⟩, hno, hst⟩ := hv
  subst hsz
  have hts := atoms_spec (ws := Cond.codeWith y b n r hh :: xw_G) B.pre
  obtain ⟨m9, meth9, c9, g1, g2, g3, -, -, g6, -⟩ := Cond.codeWith_spec (hts _ List.mem_cons_self)
  cases g1.symm.trans B.named
  cases g2.symm.trans B.method
  cases g3.symm.trans (Stand.of_body B).code
  rw [lg_entry_eq]
  exact body p e s m below meth c B.exec B.bytes hml (findClass_of_methodNamed B.named) (fun w h => hts w (List.mem_cons_of_mem _ h)) B.returns B.notSynchronized g6 hno hst hP hK hN _ (fun q h => Or.inr h) hD0.self hT _ (lv_entry av hn)
/-- a call of a method that throws, in a method whose table catches it, behind rows that don't -/
theorem dc_callX {y : MethodName} {b2 : ByteArray} {nL n2 i ar ci q0 : Nat} {r2 : Option FieldType} {rm : Room} {own cls name : String} {C : vw_C} {b : Addr} {As : List Value} {fs : List Value} (S : CallFix p m c cc nL s args xw_G own) (hK : va_K D cl tys s) (hN : xn_St s)
    (M : xc_Met l y (xw y b2 n2 r2) rm (xk_PX D cl tys (.ref b :: As) H.size wc) (xk_X cls) 1 6 (fun _ => False)) (hP : va_P D cl ws H) (hS : va_S A H0 H locs) (hPc : va_P D cl wc H) (hDc : va_D A wc) (hc : cl[ci]? = some C) (he : wc[q0]? = some (b, .inr (ci, fs)))
    (hno : xs_No s) (hst : xs_St s) (hH : H = s.heap)
    (h1 : Cond.methodLink own i y ∈ xw_G) (h2 : Cond.instanceMethod y ∈ xw_G) (h3 : Cond.selects C.1 y y ∈ xw_G) (h4 : Cond.initialized C.1 ∈ xw_G) (h5 : Cond.code y b2 n2 r2 ∈ xw_G) (hrc : rm.cells = 1) (hrs : rm.slots = 6)
    (hd : y.cls = C.1 ∧ y.cls ≠ "java/lang/invoke/MethodHandle" ∧ y.cls ≠ "java/lang/invoke/VarHandle" ∧ (parseMethodDescriptor y.desc).map (fun d => d.parameters.length) = some ar) (hR : rm.frames + 1 ≤ R.frames ∧ 8 + (n2 + 11) + rm.locals ≤ R.locals)
    (hn : As.length = ar) (hsize : ls.size = nL) (hstk : st0 = As.reverse ++ .ref b :: rest) (hw : (rest.map fun v => v.category).sum ≤ 8) (hdg : decode cc pc = .ok (.invokevirtual i, 3)) (hf : cells + 1 ≤ R.cells ∧ slots + 6 ≤ R.slots)
    {pre hh : List (Nat × Nat × Nat × Nat)} {sp ep hp ct : Nat} (htab : c.exceptionTable.toList.map (fun h => (h.startPc, h.endPc, h.handlerPc, h.catchType)) = pre ++ (sp, ep, hp, ct) :: hh) (hcov : sp ≤ pc ∧ pc < ep) (hct : ct ≠ 0) (hlink : Cond.classLink own ct name ∈ xw_G) (hcast : Cond.castable cls name ∈ xs_L)
    (hpre : ∀ r ∈ pre, r.1 ≤ pc ∧ pc < r.2.1 ∧ r.2.2.2 ≠ 0 ∧ ∃ nm : String, Cond.classLink own r.2.2.2 nm ∈ xw_G ∧ (cls, nm) ∈ xs_NL)
    (kk : ∀ (q : Addr) (H1 : Heap), va_P D cl ws H1 → va_S A H0 H1 locs → W p l e R s m args below meth c H1 locs (cells + 1) (slots + 6) Q (F0 m hp ls [.ref q])) : W p l e R s m args below meth c H locs cells slots Q (F0 m pc ls st0) := by
  obtain ⟨l1, l2, htl, hl1, hl2⟩ := List.map_eq_append_iff.mp htab
  obtain ⟨x, tl, hx2, e1, -⟩ := List.map_eq_cons_iff.mp hl2
  subst hx2
  obtain ⟨ea, eb, ec, ed⟩ : x.startPc = sp ∧ x.endPc = ep ∧ x.handlerPc = hp ∧ x.catchType = ct := by
    have := e1
    simp only [Prod.mk.injEq] at this
    exact this
  have hg := S.2.2.2.2
  refine xc_callV (As := As) (rest := rest) (C := C.1) S M (cwV ar hg (xw_gV h1 h2 h3 h4 h5) rfl hrc hrs hd hR) ⟨xk_blindX, va_recv hK hPc hc he, fun U hU hW => ⟨⟨rfl, by rw [hU], by rw [hU]; exact hPc, va_K.moved hW.alike hK, hDc.weaken (fun _ _ _ _ => trivial), xn_moved hW hN⟩, xs_moved hst (by rw [hU, hH]) hW⟩⟩ rfl hn hsize hstk (lv_room hw) hdg hf ?_ ?_
  · intro v st₀ t L _ _ hq _
    obtain ⟨⟨q, ce, ho, -⟩, -⟩ := hq
    cases ho
  · intro q st₀ t L hh0 hal hal0 hq hL
    obtain ⟨⟨q', ce, ho, g1, g2, g3, g4⟩, g5, g6⟩ := hq
    cases ho
    have hLn : L = [] := by
      cases L with
      | nil => rfl
      | cons z _ => exact (hL z List.mem_cons_self).elim
    subst hLn
    rw [hh0] at g5 g6
    rw [List.append_nil]
    have hcls : s.vm.findClass cls = some ce.cls := by rw [← hal0.findClass]; exact g4
    obtain ⟨k9, hk9, -⟩ := Vm.findClass_spec hcls
    refine xc_catch (x := x) (pre := l1) (rest := tl) rfl g2 g3 ⟨k9, hk9⟩ htl (fun pl hpl y hy => ?_) (fun pl hpl => ?_) ?_
    · have hin : (y.startPc, y.endPc, y.handlerPc, y.catchType) ∈ pre := by rw [← hl1]; exact List.mem_map.mpr ⟨y, hy, rfl⟩
      obtain ⟨b1, b2', b3, nm, b4, b5⟩ := hpre _ hin
      obtain ⟨ca, cb, f1, f2, f3⟩ := hno _ b5
      cases Option.some.inj (f1.symm.trans hcls)
      obtain ⟨c5, hc5, hcl5⟩ := Cond.classLink_spec S.2.2.2.1 (hg _ b4) pl hpl
      cases Option.some.inj (f2.symm.trans hc5)
      refine Or.inr ⟨?_, b3, cb, hcl5, f3⟩
      simp only [covers]
      have b1 : y.startPc ≤ pc := b1
      have b2' : pc < y.endPc := b2'
      simp [*]
    · obtain ⟨c3, c4, hc3, hc4, hasg⟩ := Cond.castable_spec (hst.2.2.2.2 _ hcast)
      cases Option.some.inj (hc3.symm.trans hcls)
      obtain ⟨c5, hc5, hcl5⟩ := Cond.classLink_spec S.2.2.2.1 (hg _ hlink) pl hpl
      cases Option.some.inj (hc4.symm.trans hc5)
      refine ⟨?_, by rw [ed]; exact hct, c4, by rw [ed]; exact hcl5, hasg⟩
      simp only [covers, ea, eb]
      have := hcov.1
      have := hcov.2
      simp [*]
    · rw [ec]
      refine kk q t.heap (hP.kept (fun k z hz => g5 z.1 ((hP k z hz).lt))) ⟨Nat.le_trans hS.1 g6, fun r h1 h2 => ?_, hS.2.2⟩
      rw [g5 r (Nat.lt_of_lt_of_le h1 hS.1)]
      exact hS.2.1 r h1 h2
end HK
def rn_L : String := "CircuitCyclesLaw"
theorem wn_7_23 : (Jvm.Cond.classLink "CircuitCyclesLaw" (13 : Nat) "java/lang/UnsupportedOperationException") ∈ xw_G := xw_c7 (List.mem_of_getElem? (i := 23) rfl) rfl
theorem wn_7_24 : (Jvm.Cond.methodLink "CircuitCyclesLaw" (7 : Nat) ({ cls := "CircuitCycles", name := "feed", desc := "(IIIII)I" } : Jvm.MethodName)) ∈ xw_G := xw_c7 (List.mem_of_getElem? (i := 24) rfl) rfl
theorem wn_7_25 : (Jvm.Cond.instanceMethod ({ cls := "CircuitCycles", name := "feed", desc := "(IIIII)I" } : Jvm.MethodName)) ∈ xw_G := xw_c7 (List.mem_of_getElem? (i := 25) rfl) rfl
theorem wn_7_26 : (Jvm.Cond.selects "CircuitCycles" ({ cls := "CircuitCycles", name := "feed", desc := "(IIIII)I" } : Jvm.MethodName) ({ cls := "CircuitCycles", name := "feed", desc := "(IIIII)I" } : Jvm.MethodName)) ∈ xw_G := xw_c7 (List.mem_of_getElem? (i := 26) rfl) rfl
theorem wn_7_27 : (Jvm.Cond.code ({ cls := "CircuitCycles", name := "feed", desc := "(IIIII)I" } : Jvm.MethodName) prog_1_method_2_code (6 : Nat) (Option.some Jvm.ClassFile.FieldType.int)) ∈ xw_G := xw_c7 (List.mem_of_getElem? (i := 27) rfl) rfl
theorem wn_7_100 : (Jvm.Cond.classLink "CircuitCyclesLaw" (19 : Nat) "java/lang/IllegalArgumentException") ∈ xw_G := xw_c7 (List.mem_of_getElem? (i := 100) rfl) rfl
theorem wn_7_101 : (Jvm.Cond.methodLink "CircuitCyclesLaw" (15 : Nat) ({ cls := "CircuitCycles", name := "end", desc := "(I)V" } : Jvm.MethodName)) ∈ xw_G := xw_c7 (List.mem_of_getElem? (i := 101) rfl) rfl
theorem wn_7_102 : (Jvm.Cond.instanceMethod ({ cls := "CircuitCycles", name := "end", desc := "(I)V" } : Jvm.MethodName)) ∈ xw_G := xw_c7 (List.mem_of_getElem? (i := 102) rfl) rfl
theorem wn_7_103 : (Jvm.Cond.selects "CircuitCycles" ({ cls := "CircuitCycles", name := "end", desc := "(I)V" } : Jvm.MethodName) ({ cls := "CircuitCycles", name := "end", desc := "(I)V" } : Jvm.MethodName)) ∈ xw_G := xw_c7 (List.mem_of_getElem? (i := 103) rfl) rfl
theorem wn_7_104 : (Jvm.Cond.code ({ cls := "CircuitCycles", name := "end", desc := "(I)V" } : Jvm.MethodName) prog_1_method_3_code (2 : Nat) (Option.none : Option Jvm.ClassFile.FieldType)) ∈ xw_G := xw_c7 (List.mem_of_getElem? (i := 104) rfl) rfl
theorem wn_7_123 : (Jvm.Cond.classLink "CircuitCyclesLaw" (25 : Nat) "java/lang/IllegalStateException") ∈ xw_G := xw_c7 (List.mem_of_getElem? (i := 123) rfl) rfl
theorem wn_7_124 : (Jvm.Cond.methodLink "CircuitCyclesLaw" (21 : Nat) ({ cls := "CircuitCycles", name := "count", desc := "(I)I" } : Jvm.MethodName)) ∈ xw_G := xw_c7 (List.mem_of_getElem? (i := 124) rfl) rfl
theorem wn_7_125 : (Jvm.Cond.instanceMethod ({ cls := "CircuitCycles", name := "count", desc := "(I)I" } : Jvm.MethodName)) ∈ xw_G := xw_c7 (List.mem_of_getElem? (i := 125) rfl) rfl
theorem wn_7_126 : (Jvm.Cond.selects "CircuitCycles" ({ cls := "CircuitCycles", name := "count", desc := "(I)I" } : Jvm.MethodName) ({ cls := "CircuitCycles", name := "count", desc := "(I)I" } : Jvm.MethodName)) ∈ xw_G := xw_c7 (List.mem_of_getElem? (i := 126) rfl) rfl
theorem wn_7_127 : (Jvm.Cond.code ({ cls := "CircuitCycles", name := "count", desc := "(I)I" } : Jvm.MethodName) prog_1_method_6_code (3 : Nat) (Option.some Jvm.ClassFile.FieldType.int)) ∈ xw_G := xw_c7 (List.mem_of_getElem? (i := 127) rfl) rfl
theorem wn_7_147 : (Jvm.Cond.methodLink "CircuitCyclesLaw" (27 : Nat) ({ cls := "CircuitCycles", name := "find", desc := "()I" } : Jvm.MethodName)) ∈ xw_G := xw_c7 (List.mem_of_getElem? (i := 147) rfl) rfl
theorem wn_7_148 : (Jvm.Cond.instanceMethod ({ cls := "CircuitCycles", name := "find", desc := "()I" } : Jvm.MethodName)) ∈ xw_G := xw_c7 (List.mem_of_getElem? (i := 148) rfl) rfl
theorem wn_7_149 : (Jvm.Cond.selects "CircuitCycles" ({ cls := "CircuitCycles", name := "find", desc := "()I" } : Jvm.MethodName) ({ cls := "CircuitCycles", name := "find", desc := "()I" } : Jvm.MethodName)) ∈ xw_G := xw_c7 (List.mem_of_getElem? (i := 149) rfl) rfl
theorem wn_7_150 : (Jvm.Cond.code ({ cls := "CircuitCycles", name := "find", desc := "()I" } : Jvm.MethodName) prog_1_method_7_code (2 : Nat) (Option.some Jvm.ClassFile.FieldType.int)) ∈ xw_G := xw_c7 (List.mem_of_getElem? (i := 150) rfl) rfl
theorem wn_7_172 : (Jvm.Cond.classLink "CircuitCyclesLaw" (35 : Nat) "java/lang/IndexOutOfBoundsException") ∈ xw_G := xw_c7 (List.mem_of_getElem? (i := 172) rfl) rfl
theorem wn_7_173 : (Jvm.Cond.methodLink "CircuitCyclesLaw" (31 : Nat) ({ cls := "CircuitCycles", name := "signal", desc := "(II)I" } : Jvm.MethodName)) ∈ xw_G := xw_c7 (List.mem_of_getElem? (i := 173) rfl) rfl
theorem wn_7_174 : (Jvm.Cond.instanceMethod ({ cls := "CircuitCycles", name := "signal", desc := "(II)I" } : Jvm.MethodName)) ∈ xw_G := xw_c7 (List.mem_of_getElem? (i := 174) rfl) rfl
theorem wn_7_175 : (Jvm.Cond.selects "CircuitCycles" ({ cls := "CircuitCycles", name := "signal", desc := "(II)I" } : Jvm.MethodName) ({ cls := "CircuitCycles", name := "signal", desc := "(II)I" } : Jvm.MethodName)) ∈ xw_G := xw_c7 (List.mem_of_getElem? (i := 175) rfl) rfl
theorem wn_7_176 : (Jvm.Cond.code ({ cls := "CircuitCycles", name := "signal", desc := "(II)I" } : Jvm.MethodName) prog_1_method_8_code (3 : Nat) (Option.some Jvm.ClassFile.FieldType.int)) ∈ xw_G := xw_c7 (List.mem_of_getElem? (i := 176) rfl) rfl
theorem wn_7_203 : (Jvm.Cond.methodLink "CircuitCyclesLaw" (37 : Nat) ({ cls := "CircuitCycles", name := "reset", desc := "()V" } : Jvm.MethodName)) ∈ xw_G := xw_c7 (List.mem_of_getElem? (i := 203) rfl) rfl
theorem wn_7_204 : (Jvm.Cond.instanceMethod ({ cls := "CircuitCycles", name := "reset", desc := "()V" } : Jvm.MethodName)) ∈ xw_G := xw_c7 (List.mem_of_getElem? (i := 204) rfl) rfl
theorem wn_7_205 : (Jvm.Cond.selects "CircuitCycles" ({ cls := "CircuitCycles", name := "reset", desc := "()V" } : Jvm.MethodName) ({ cls := "CircuitCycles", name := "reset", desc := "()V" } : Jvm.MethodName)) ∈ xw_G := xw_c7 (List.mem_of_getElem? (i := 205) rfl) rfl
theorem wn_7_206 : (Jvm.Cond.code ({ cls := "CircuitCycles", name := "reset", desc := "()V" } : Jvm.MethodName) prog_1_method_9_code (1 : Nat) (Option.none : Option Jvm.ClassFile.FieldType)) ∈ xw_G := xw_c7 (List.mem_of_getElem? (i := 206) rfl) rfl
theorem wn_7_210 : (Jvm.Cond.methodLink "CircuitCyclesLaw" (40 : Nat) ({ cls := "CircuitCycles", name := "set", desc := "(II)V" } : Jvm.MethodName)) ∈ xw_G := xw_c7 (List.mem_of_getElem? (i := 210) rfl) rfl
theorem wn_7_211 : (Jvm.Cond.instanceMethod ({ cls := "CircuitCycles", name := "set", desc := "(II)V" } : Jvm.MethodName)) ∈ xw_G := xw_c7 (List.mem_of_getElem? (i := 211) rfl) rfl
theorem wn_7_212 : (Jvm.Cond.selects "CircuitCycles" ({ cls := "CircuitCycles", name := "set", desc := "(II)V" } : Jvm.MethodName) ({ cls := "CircuitCycles", name := "set", desc := "(II)V" } : Jvm.MethodName)) ∈ xw_G := xw_c7 (List.mem_of_getElem? (i := 212) rfl) rfl
theorem wn_7_213 : (Jvm.Cond.code ({ cls := "CircuitCycles", name := "set", desc := "(II)V" } : Jvm.MethodName) prog_1_method_10_code (3 : Nat) (Option.none : Option Jvm.ClassFile.FieldType)) ∈ xw_G := xw_c7 (List.mem_of_getElem? (i := 213) rfl) rfl
theorem wn_7_222 : (Jvm.Cond.methodLink "CircuitCyclesLaw" (44 : Nat) ({ cls := "CircuitCycles", name := "step", desc := "()I" } : Jvm.MethodName)) ∈ xw_G := xw_c7 (List.mem_of_getElem? (i := 222) rfl) rfl
theorem wn_7_223 : (Jvm.Cond.instanceMethod ({ cls := "CircuitCycles", name := "step", desc := "()I" } : Jvm.MethodName)) ∈ xw_G := xw_c7 (List.mem_of_getElem? (i := 223) rfl) rfl
theorem wn_7_224 : (Jvm.Cond.selects "CircuitCycles" ({ cls := "CircuitCycles", name := "step", desc := "()I" } : Jvm.MethodName) ({ cls := "CircuitCycles", name := "step", desc := "()I" } : Jvm.MethodName)) ∈ xw_G := xw_c7 (List.mem_of_getElem? (i := 224) rfl) rfl
theorem wn_7_225 : (Jvm.Cond.code ({ cls := "CircuitCycles", name := "step", desc := "()I" } : Jvm.MethodName) prog_1_method_11_code (1 : Nat) (Option.some Jvm.ClassFile.FieldType.int)) ∈ xw_G := xw_c7 (List.mem_of_getElem? (i := 225) rfl) rfl
theorem wn_8_46 : (Jvm.Cond.methodLink "CircuitCyclesLaw" (47 : Nat) ({ cls := "CircuitCycles", name := "value", desc := "(I)J" } : Jvm.MethodName)) ∈ xw_G := xw_c8 (List.mem_of_getElem? (i := 46) rfl) rfl
theorem wn_8_47 : (Jvm.Cond.instanceMethod ({ cls := "CircuitCycles", name := "value", desc := "(I)J" } : Jvm.MethodName)) ∈ xw_G := xw_c8 (List.mem_of_getElem? (i := 47) rfl) rfl
theorem wn_8_48 : (Jvm.Cond.selects "CircuitCycles" ({ cls := "CircuitCycles", name := "value", desc := "(I)J" } : Jvm.MethodName) ({ cls := "CircuitCycles", name := "value", desc := "(I)J" } : Jvm.MethodName)) ∈ xw_G := xw_c8 (List.mem_of_getElem? (i := 48) rfl) rfl
theorem wn_8_49 : (Jvm.Cond.code ({ cls := "CircuitCycles", name := "value", desc := "(I)J" } : Jvm.MethodName) prog_1_method_12_code (2 : Nat) (Option.some Jvm.ClassFile.FieldType.long)) ∈ xw_G := xw_c8 (List.mem_of_getElem? (i := 49) rfl) rfl
theorem wn_8_57 : (Jvm.Cond.methodLink "CircuitCyclesLaw" (51 : Nat) ({ cls := "CircuitCycles", name := "failing", desc := "()I" } : Jvm.MethodName)) ∈ xw_G := xw_c8 (List.mem_of_getElem? (i := 57) rfl) rfl
theorem wn_8_58 : (Jvm.Cond.instanceMethod ({ cls := "CircuitCycles", name := "failing", desc := "()I" } : Jvm.MethodName)) ∈ xw_G := xw_c8 (List.mem_of_getElem? (i := 58) rfl) rfl
theorem wn_8_59 : (Jvm.Cond.selects "CircuitCycles" ({ cls := "CircuitCycles", name := "failing", desc := "()I" } : Jvm.MethodName) ({ cls := "CircuitCycles", name := "failing", desc := "()I" } : Jvm.MethodName)) ∈ xw_G := xw_c8 (List.mem_of_getElem? (i := 59) rfl) rfl
theorem wn_8_60 : (Jvm.Cond.code ({ cls := "CircuitCycles", name := "failing", desc := "()I" } : Jvm.MethodName) prog_1_method_13_code (1 : Nat) (Option.some Jvm.ClassFile.FieldType.int)) ∈ xw_G := xw_c8 (List.mem_of_getElem? (i := 60) rfl) rfl
def yn_L_count : MethodName := ⟨rn_L, "count", "(LCircuitCycles;I[J)I"⟩
abbrev bn_L_count : ByteArray := method_5_code
def yn_L_end : MethodName := ⟨rn_L, "end", "(LCircuitCycles;I)I"⟩
abbrev bn_L_end : ByteArray := method_4_code
def yn_L_failing : MethodName := ⟨rn_L, "failing", "(LCircuitCycles;[J)I"⟩
abbrev bn_L_failing : ByteArray := method_12_code
def yn_L_feed : MethodName := ⟨rn_L, "feed", "(LCircuitCycles;IIIII[J)I"⟩
abbrev bn_L_feed : ByteArray := method_3_code
def yn_L_find : MethodName := ⟨rn_L, "find", "(LCircuitCycles;[J)I"⟩
abbrev bn_L_find : ByteArray := method_6_code
def yn_L_reset : MethodName := ⟨rn_L, "reset", "(LCircuitCycles;)I"⟩
abbrev bn_L_reset : ByteArray := method_8_code
def yn_L_set : MethodName := ⟨rn_L, "set", "(LCircuitCycles;II)I"⟩
abbrev bn_L_set : ByteArray := method_9_code
def yn_L_signal : MethodName := ⟨rn_L, "signal", "(LCircuitCycles;II[J)I"⟩
abbrev bn_L_signal : ByteArray := method_7_code
def yn_L_step : MethodName := ⟨rn_L, "step", "(LCircuitCycles;[J)I"⟩
abbrev bn_L_step : ByteArray := method_10_code
def yn_L_value : MethodName := ⟨rn_L, "value", "(LCircuitCycles;I[J)I"⟩
abbrev bn_L_value : ByteArray := method_11_code
theorem dn_L_count_0 : decode bn_L_count 0 = .ok (.aload_n 2, 1) := by decide +kernel
theorem dn_L_count_1 : decode bn_L_count 1 = .ok (.iconst 0, 1) := by decide +kernel
theorem dn_L_count_2 : decode bn_L_count 2 = .ok (.aload_n 0, 1) := by decide +kernel
theorem dn_L_count_3 : decode bn_L_count 3 = .ok (.iload_n 1, 1) := by decide +kernel
theorem dn_L_count_4 : decode bn_L_count 4 = .ok (.invokevirtual 21, 3) := by decide +kernel
theorem dn_L_count_7 : decode bn_L_count 7 = .ok (.i2l, 1) := by decide +kernel
theorem dn_L_count_8 : decode bn_L_count 8 = .ok (.lastore, 1) := by decide +kernel
theorem dn_L_count_9 : decode bn_L_count 9 = .ok (.goto 9, 3) := by decide +kernel
theorem dn_L_count_12 : decode bn_L_count 12 = .ok (.astore_n 3, 1) := by decide +kernel
theorem dn_L_count_13 : decode bn_L_count 13 = .ok (.iconst 1, 1) := by decide +kernel
theorem dn_L_count_14 : decode bn_L_count 14 = .ok (.ireturn, 1) := by decide +kernel
theorem dn_L_count_15 : decode bn_L_count 15 = .ok (.astore_n 3, 1) := by decide +kernel
theorem dn_L_count_16 : decode bn_L_count 16 = .ok (.iconst 2, 1) := by decide +kernel
theorem dn_L_count_17 : decode bn_L_count 17 = .ok (.ireturn, 1) := by decide +kernel
theorem dn_L_count_18 : decode bn_L_count 18 = .ok (.iconst 0, 1) := by decide +kernel
theorem dn_L_count_19 : decode bn_L_count 19 = .ok (.ireturn, 1) := by decide +kernel
theorem dn_L_end_0 : decode bn_L_end 0 = .ok (.aload_n 0, 1) := by decide +kernel
theorem dn_L_end_1 : decode bn_L_end 1 = .ok (.iload_n 1, 1) := by decide +kernel
theorem dn_L_end_2 : decode bn_L_end 2 = .ok (.invokevirtual 15, 3) := by decide +kernel
theorem dn_L_end_5 : decode bn_L_end 5 = .ok (.goto 6, 3) := by decide +kernel
theorem dn_L_end_8 : decode bn_L_end 8 = .ok (.astore_n 2, 1) := by decide +kernel
theorem dn_L_end_9 : decode bn_L_end 9 = .ok (.iconst 1, 1) := by decide +kernel
theorem dn_L_end_10 : decode bn_L_end 10 = .ok (.ireturn, 1) := by decide +kernel
theorem dn_L_end_11 : decode bn_L_end 11 = .ok (.iconst 0, 1) := by decide +kernel
theorem dn_L_end_12 : decode bn_L_end 12 = .ok (.ireturn, 1) := by decide +kernel
theorem dn_L_failing_0 : decode bn_L_failing 0 = .ok (.aload_n 1, 1) := by decide +kernel
theorem dn_L_failing_1 : decode bn_L_failing 1 = .ok (.iconst 0, 1) := by decide +kernel
theorem dn_L_failing_2 : decode bn_L_failing 2 = .ok (.aload_n 0, 1) := by decide +kernel
theorem dn_L_failing_3 : decode bn_L_failing 3 = .ok (.invokevirtual 51, 3) := by decide +kernel
theorem dn_L_failing_6 : decode bn_L_failing 6 = .ok (.i2l, 1) := by decide +kernel
theorem dn_L_failing_7 : decode bn_L_failing 7 = .ok (.lastore, 1) := by decide +kernel
theorem dn_L_failing_8 : decode bn_L_failing 8 = .ok (.goto 6, 3) := by decide +kernel
theorem dn_L_failing_11 : decode bn_L_failing 11 = .ok (.astore_n 2, 1) := by decide +kernel
theorem dn_L_failing_12 : decode bn_L_failing 12 = .ok (.iconst 1, 1) := by decide +kernel
theorem dn_L_failing_13 : decode bn_L_failing 13 = .ok (.ireturn, 1) := by decide +kernel
theorem dn_L_failing_14 : decode bn_L_failing 14 = .ok (.iconst 0, 1) := by decide +kernel
theorem dn_L_failing_15 : decode bn_L_failing 15 = .ok (.ireturn, 1) := by decide +kernel
theorem dn_L_feed_0 : decode bn_L_feed 0 = .ok (.aload 6, 2) := by decide +kernel
theorem dn_L_feed_2 : decode bn_L_feed 2 = .ok (.iconst 0, 1) := by decide +kernel
theorem dn_L_feed_3 : decode bn_L_feed 3 = .ok (.aload_n 0, 1) := by decide +kernel
theorem dn_L_feed_4 : decode bn_L_feed 4 = .ok (.iload_n 1, 1) := by decide +kernel
theorem dn_L_feed_5 : decode bn_L_feed 5 = .ok (.iload_n 2, 1) := by decide +kernel
theorem dn_L_feed_6 : decode bn_L_feed 6 = .ok (.iload_n 3, 1) := by decide +kernel
theorem dn_L_feed_7 : decode bn_L_feed 7 = .ok (.iload 4, 2) := by decide +kernel
theorem dn_L_feed_9 : decode bn_L_feed 9 = .ok (.iload 5, 2) := by decide +kernel
theorem dn_L_feed_11 : decode bn_L_feed 11 = .ok (.invokevirtual 7, 3) := by decide +kernel
theorem dn_L_feed_14 : decode bn_L_feed 14 = .ok (.i2l, 1) := by decide +kernel
theorem dn_L_feed_15 : decode bn_L_feed 15 = .ok (.lastore, 1) := by decide +kernel
theorem dn_L_feed_16 : decode bn_L_feed 16 = .ok (.goto 7, 3) := by decide +kernel
theorem dn_L_feed_19 : decode bn_L_feed 19 = .ok (.astore 7, 2) := by decide +kernel
theorem dn_L_feed_21 : decode bn_L_feed 21 = .ok (.iconst 1, 1) := by decide +kernel
theorem dn_L_feed_22 : decode bn_L_feed 22 = .ok (.ireturn, 1) := by decide +kernel
theorem dn_L_feed_23 : decode bn_L_feed 23 = .ok (.iconst 0, 1) := by decide +kernel
theorem dn_L_feed_24 : decode bn_L_feed 24 = .ok (.ireturn, 1) := by decide +kernel
theorem dn_L_find_0 : decode bn_L_find 0 = .ok (.aload_n 1, 1) := by decide +kernel
theorem dn_L_find_1 : decode bn_L_find 1 = .ok (.iconst 0, 1) := by decide +kernel
theorem dn_L_find_2 : decode bn_L_find 2 = .ok (.aload_n 0, 1) := by decide +kernel
theorem dn_L_find_3 : decode bn_L_find 3 = .ok (.invokevirtual 27, 3) := by decide +kernel
theorem dn_L_find_6 : decode bn_L_find 6 = .ok (.i2l, 1) := by decide +kernel
theorem dn_L_find_7 : decode bn_L_find 7 = .ok (.lastore, 1) := by decide +kernel
theorem dn_L_find_8 : decode bn_L_find 8 = .ok (.goto 6, 3) := by decide +kernel
theorem dn_L_find_11 : decode bn_L_find 11 = .ok (.astore_n 2, 1) := by decide +kernel
theorem dn_L_find_12 : decode bn_L_find 12 = .ok (.iconst 1, 1) := by decide +kernel
theorem dn_L_find_13 : decode bn_L_find 13 = .ok (.ireturn, 1) := by decide +kernel
theorem dn_L_find_14 : decode bn_L_find 14 = .ok (.iconst 0, 1) := by decide +kernel
theorem dn_L_find_15 : decode bn_L_find 15 = .ok (.ireturn, 1) := by decide +kernel
theorem dn_L_reset_0 : decode bn_L_reset 0 = .ok (.aload_n 0, 1) := by decide +kernel
theorem dn_L_reset_1 : decode bn_L_reset 1 = .ok (.invokevirtual 37, 3) := by decide +kernel
theorem dn_L_reset_4 : decode bn_L_reset 4 = .ok (.goto 6, 3) := by decide +kernel
theorem dn_L_reset_7 : decode bn_L_reset 7 = .ok (.astore_n 1, 1) := by decide +kernel
theorem dn_L_reset_8 : decode bn_L_reset 8 = .ok (.iconst 1, 1) := by decide +kernel
theorem dn_L_reset_9 : decode bn_L_reset 9 = .ok (.ireturn, 1) := by decide +kernel
theorem dn_L_reset_10 : decode bn_L_reset 10 = .ok (.iconst 0, 1) := by decide +kernel
theorem dn_L_reset_11 : decode bn_L_reset 11 = .ok (.ireturn, 1) := by decide +kernel
theorem dn_L_set_0 : decode bn_L_set 0 = .ok (.aload_n 0, 1) := by decide +kernel
theorem dn_L_set_1 : decode bn_L_set 1 = .ok (.iload_n 1, 1) := by decide +kernel
theorem dn_L_set_2 : decode bn_L_set 2 = .ok (.iload_n 2, 1) := by decide +kernel
theorem dn_L_set_3 : decode bn_L_set 3 = .ok (.invokevirtual 40, 3) := by decide +kernel
theorem dn_L_set_6 : decode bn_L_set 6 = .ok (.goto 12, 3) := by decide +kernel
theorem dn_L_set_9 : decode bn_L_set 9 = .ok (.astore_n 3, 1) := by decide +kernel
theorem dn_L_set_10 : decode bn_L_set 10 = .ok (.iconst 1, 1) := by decide +kernel
theorem dn_L_set_11 : decode bn_L_set 11 = .ok (.ireturn, 1) := by decide +kernel
theorem dn_L_set_12 : decode bn_L_set 12 = .ok (.astore_n 3, 1) := by decide +kernel
theorem dn_L_set_13 : decode bn_L_set 13 = .ok (.iconst 2, 1) := by decide +kernel
theorem dn_L_set_14 : decode bn_L_set 14 = .ok (.ireturn, 1) := by decide +kernel
theorem dn_L_set_15 : decode bn_L_set 15 = .ok (.astore_n 3, 1) := by decide +kernel
theorem dn_L_set_16 : decode bn_L_set 16 = .ok (.iconst 3, 1) := by decide +kernel
theorem dn_L_set_17 : decode bn_L_set 17 = .ok (.ireturn, 1) := by decide +kernel
theorem dn_L_set_18 : decode bn_L_set 18 = .ok (.iconst 0, 1) := by decide +kernel
theorem dn_L_set_19 : decode bn_L_set 19 = .ok (.ireturn, 1) := by decide +kernel
theorem dn_L_signal_0 : decode bn_L_signal 0 = .ok (.aload_n 3, 1) := by decide +kernel
theorem dn_L_signal_1 : decode bn_L_signal 1 = .ok (.iconst 0, 1) := by decide +kernel
theorem dn_L_signal_2 : decode bn_L_signal 2 = .ok (.aload_n 0, 1) := by decide +kernel
theorem dn_L_signal_3 : decode bn_L_signal 3 = .ok (.iload_n 1, 1) := by decide +kernel
theorem dn_L_signal_4 : decode bn_L_signal 4 = .ok (.iload_n 2, 1) := by decide +kernel
theorem dn_L_signal_5 : decode bn_L_signal 5 = .ok (.invokevirtual 31, 3) := by decide +kernel
theorem dn_L_signal_8 : decode bn_L_signal 8 = .ok (.i2l, 1) := by decide +kernel
theorem dn_L_signal_9 : decode bn_L_signal 9 = .ok (.lastore, 1) := by decide +kernel
theorem dn_L_signal_10 : decode bn_L_signal 10 = .ok (.goto 15, 3) := by decide +kernel
theorem dn_L_signal_13 : decode bn_L_signal 13 = .ok (.astore 4, 2) := by decide +kernel
theorem dn_L_signal_15 : decode bn_L_signal 15 = .ok (.iconst 1, 1) := by decide +kernel
theorem dn_L_signal_16 : decode bn_L_signal 16 = .ok (.ireturn, 1) := by decide +kernel
theorem dn_L_signal_17 : decode bn_L_signal 17 = .ok (.astore 4, 2) := by decide +kernel
theorem dn_L_signal_19 : decode bn_L_signal 19 = .ok (.iconst 2, 1) := by decide +kernel
theorem dn_L_signal_20 : decode bn_L_signal 20 = .ok (.ireturn, 1) := by decide +kernel
theorem dn_L_signal_21 : decode bn_L_signal 21 = .ok (.astore 4, 2) := by decide +kernel
theorem dn_L_signal_23 : decode bn_L_signal 23 = .ok (.iconst 3, 1) := by decide +kernel
theorem dn_L_signal_24 : decode bn_L_signal 24 = .ok (.ireturn, 1) := by decide +kernel
theorem dn_L_signal_25 : decode bn_L_signal 25 = .ok (.iconst 0, 1) := by decide +kernel
theorem dn_L_signal_26 : decode bn_L_signal 26 = .ok (.ireturn, 1) := by decide +kernel
theorem dn_L_step_0 : decode bn_L_step 0 = .ok (.aload_n 1, 1) := by decide +kernel
theorem dn_L_step_1 : decode bn_L_step 1 = .ok (.iconst 0, 1) := by decide +kernel
theorem dn_L_step_2 : decode bn_L_step 2 = .ok (.aload_n 0, 1) := by decide +kernel
theorem dn_L_step_3 : decode bn_L_step 3 = .ok (.invokevirtual 44, 3) := by decide +kernel
theorem dn_L_step_6 : decode bn_L_step 6 = .ok (.i2l, 1) := by decide +kernel
theorem dn_L_step_7 : decode bn_L_step 7 = .ok (.lastore, 1) := by decide +kernel
theorem dn_L_step_8 : decode bn_L_step 8 = .ok (.goto 6, 3) := by decide +kernel
theorem dn_L_step_11 : decode bn_L_step 11 = .ok (.astore_n 2, 1) := by decide +kernel
theorem dn_L_step_12 : decode bn_L_step 12 = .ok (.iconst 1, 1) := by decide +kernel
theorem dn_L_step_13 : decode bn_L_step 13 = .ok (.ireturn, 1) := by decide +kernel
theorem dn_L_step_14 : decode bn_L_step 14 = .ok (.iconst 0, 1) := by decide +kernel
theorem dn_L_step_15 : decode bn_L_step 15 = .ok (.ireturn, 1) := by decide +kernel
theorem dn_L_value_0 : decode bn_L_value 0 = .ok (.aload_n 2, 1) := by decide +kernel
theorem dn_L_value_1 : decode bn_L_value 1 = .ok (.iconst 0, 1) := by decide +kernel
theorem dn_L_value_2 : decode bn_L_value 2 = .ok (.aload_n 0, 1) := by decide +kernel
theorem dn_L_value_3 : decode bn_L_value 3 = .ok (.iload_n 1, 1) := by decide +kernel
theorem dn_L_value_4 : decode bn_L_value 4 = .ok (.invokevirtual 47, 3) := by decide +kernel
theorem dn_L_value_7 : decode bn_L_value 7 = .ok (.lastore, 1) := by decide +kernel
theorem dn_L_value_8 : decode bn_L_value 8 = .ok (.goto 9, 3) := by decide +kernel
theorem dn_L_value_11 : decode bn_L_value 11 = .ok (.astore_n 3, 1) := by decide +kernel
theorem dn_L_value_12 : decode bn_L_value 12 = .ok (.iconst 1, 1) := by decide +kernel
theorem dn_L_value_13 : decode bn_L_value 13 = .ok (.ireturn, 1) := by decide +kernel
theorem dn_L_value_14 : decode bn_L_value 14 = .ok (.astore_n 3, 1) := by decide +kernel
theorem dn_L_value_15 : decode bn_L_value 15 = .ok (.iconst 2, 1) := by decide +kernel
theorem dn_L_value_16 : decode bn_L_value 16 = .ok (.ireturn, 1) := by decide +kernel
theorem dn_L_value_17 : decode bn_L_value 17 = .ok (.iconst 0, 1) := by decide +kernel
theorem dn_L_value_18 : decode bn_L_value 18 = .ok (.ireturn, 1) := by decide +kernel
set_option maxHeartbeats 8000000 in
set_option maxRecDepth 100000 in
theorem hc_feed (l : Launch) (hlt : l.stackTraces = false) (dC : Nat → ClassId) (dI : Nat → Nat → Nat) (cI cB cJ cZ cQ : ClassId) (N sz : Nat) (a : Nat → Nat) (v : Nat → Value) (ho : Nat) (v1 : Int32) (v2 : Int32) (v3 : Int32) (v4 : Int32) (v5 : Int32) (s : ms) (o : Nat → Int64) (y : Int32 × ms × (Nat → Int64)) (hf : hp_feed N v1 v2 v3 v4 v5 s o = some y) : Met l yn_L_feed (Cond.codeWith yn_L_feed bn_L_feed 8 (some .int) [(0, 16, 19, 13)] :: xw_G) ({ frames := 7, cells := 1, slots := 6, locals := 125 }) (dc_PX (dC, dI) xcl (xt cI cB cJ cZ cQ) [.ref ((a 100)), .int v1, .int v2, .int v3, .int v4, .int v5, .ref ho] sz (wC a v cI cB cJ cZ cQ s ++ ([(ho, .inl (cJ, 1, .inr (.inl o)))] : va_W))) (xk_Qi (dC, dI) xcl (xt cI cB cJ cZ cQ) (fun (r : Int32) (_ : Unit) => r = y.1) (fun _ : Unit => (wC a v cI cB cJ cZ cQ y.2.1 ++ ([(ho, .inl (cJ, 1, .inr (.inl y.2.2)))] : va_W))) (va_A (wC a v cI cB cJ cZ cQ s ++ ([(ho, .inl (cJ, 1, .inr (.inl o)))] : va_W)) sz)) 1 6 (va_A (wC a v cI cB cJ cZ cQ s ++ ([(ho, .inl (cJ, 1, .inr (.inl o)))] : va_W)) sz) := by
  refine dc_ofH (QA := xk_Qi (dC, dI) xcl (xt cI cB cJ cZ cQ) (fun (r : Int32) (_ : Unit) => r = y.1) (fun _ : Unit => (wC a v cI cB cJ cZ cQ y.2.1 ++ ([(ho, .inl (cJ, 1, .inr (.inl y.2.2)))] : va_W)))) (by decide) (Nat.le_of_ble_eq_true rfl) ?_
  intro p e s0 m below meth c hx hb hml hown hg hr hlocks htab hno hst hP hK hN A hA hD hT ls hl
  have hown : s0.vm.findClass rn_L = some m.cls := hown
  have hl : lv_has ls 8 [(0, .ref ((a 100))), (1, .int v1), (2, .int v2), (3, .int v3), (4, .int v4), (5, .int v5), (6, .ref ho)] := hl
  obtain ⟨H, hH⟩ : ∃ z, z = s0.heap := ⟨_, rfl⟩
  rw [← hH] at hP
  have hS : va_S A s0.heap H [] := by rw [hH]; exact va_S.rf
  suffices kk : W p l e ({ frames := 7, cells := 1, slots := 6, locals := 125 }) s0 m [.ref ((a 100)), .int v1, .int v2, .int v3, .int v4, .int v5, .ref ho].toArray below meth c H [] 0 0 (MQ below (xk_Qi (dC, dI) xcl (xt cI cB cJ cZ cQ) (fun (r : Int32) (_ : Unit) => r = y.1) (fun _ : Unit => (wC a v cI cB cJ cZ cQ y.2.1 ++ ([(ho, .inl (cJ, 1, .inr (.inl y.2.2)))] : va_W))) A) [.ref ((a 100)), .int v1, .int v2, .int v3, .int v4, .int v5, .ref ho].toArray s0 1 6 A) (F0 m 0 ls []) by rw [hH] at kk; exact kk
  unfold hp_feed at hf
  refine lv_aload hx hb dn_L_feed_0 (lv_at hl 6 rfl) ?_
  refine lv_iconst (v := 0) hx hb dn_L_feed_2 (by decide) ?_
  refine lv_aload_n hx hb dn_L_feed_3 rfl (lv_at hl 0 rfl) ?_
  refine lv_iload_n hx hb dn_L_feed_4 rfl (lv_at hl 1 rfl) ?_
  refine lv_iload_n hx hb dn_L_feed_5 rfl (lv_at hl 2 rfl) ?_
  refine lv_iload_n hx hb dn_L_feed_6 rfl (lv_at hl 3 rfl) ?_
  refine lv_iload hx hb dn_L_feed_7 (lv_at hl 4 rfl) ?_
  refine lv_iload hx hb dn_L_feed_9 (lv_at hl 5 rfl) ?_
  cases htx : tx_C_feed_C N v1 v2 v3 v4 v5 s with
  | some k =>
    rw [htx] at hf
    have hf : (if k = 0 then some (1, s, o) else none) = some y := hf
    by_cases hk0 : k = 0
    · subst hk0
      have hf := (if_pos rfl).symm.trans hf
      have hpre : ∀ r ∈ ([] : List (Nat × Nat × Nat × Nat)), r.1 ≤ 11 ∧ 11 < r.2.1 ∧ r.2.2.2 ≠ 0 ∧ ∃ nm : String, Cond.classLink rn_L r.2.2.2 nm ∈ xw_G ∧ ("java/lang/UnsupportedOperationException", nm) ∈ xs_NL := by
        intro r hr
        cases hr
      refine dc_callX (cls := "java/lang/UnsupportedOperationException") (pre := []) (ar := 5) (As := [.int v1, .int v2, .int v3, .int v4, .int v5]) (rest := [.int 0, .ref ho]) (ci := 1) (q0 := 0) ⟨hx, hb, hml, hown, hg⟩ hK hN (tc_C_feed_C l hlt dC dI cI cB cJ cZ cQ N H.size a v v1 v2 v3 v4 v5 s 0 htx) hP hS (va_P_l hP) (va_D_l hD) rfl rfl hno hst hH wn_7_24 wn_7_25 wn_7_26 wn_1_1 wn_7_27 rfl rfl (by decide +kernel) ⟨Nat.le_of_ble_eq_true rfl, Nat.le_of_ble_eq_true rfl⟩ rfl hl.1 rfl (Nat.le_of_ble_eq_true rfl) dn_L_feed_11 ⟨Nat.le_of_ble_eq_true rfl, Nat.le_of_ble_eq_true rfl⟩ htab (by decide) (by decide) wn_7_23 (by decide +kernel) hpre (fun qx H hP hS => ?_)
      refine lv_astore (lv' := [(7, .ref qx), (0, .ref ((a 100))), (1, .int v1), (2, .int v2), (3, .int v3), (4, .int v4), (5, .int v5), (6, .ref ho)]) hx hb dn_L_feed_19 hl (by decide) rfl (fun ls hl => ?_)
      refine lv_iconst (v := 1) hx hb dn_L_feed_21 (by decide) ?_
      rw [← Option.some.inj hf]
      exact xk_iret (w1 := fun _ : Unit => (wC a v cI cB cJ cZ cQ s ++ ([(ho, .inl (cJ, 1, .inr (.inl o)))] : va_W))) () hx hb hr hlocks hK hS dn_L_feed_22 hP hD rfl (Nat.le_refl _) (Nat.le_refl _)
    have hf := (if_neg hk0).symm.trans hf
    cases hf
  | none =>
    rw [htx] at hf
    obtain ⟨q, hc, hf⟩ := dc_b hf
    refine dc_calliA (dc_runV (ar := 5) (As := [.int v1, .int v2, .int v3, .int v4, .int v5]) (rest := [.int 0, .ref ho]) (ci := 1) (q0 := 0) ⟨hx, hb, hml, hown, hg⟩ hK hN hT hS hA (ct_C_feed_C l dC dI cI cB cJ cZ cQ N H.size a v v1 v2 v3 v4 v5 s q hc) (va_P_l hP) (va_D_l hD) rfl rfl wn_7_24 wn_7_25 wn_7_26 wn_1_1 wn_7_27 rfl rfl (by decide +kernel) ⟨Nat.le_of_ble_eq_true rfl, Nat.le_of_ble_eq_true rfl⟩ rfl hl.1 rfl (Nat.le_of_ble_eq_true rfl) dn_L_feed_11 ⟨Nat.le_of_ble_eq_true rfl, Nat.le_of_ble_eq_true rfl⟩) hP hD hS hA (fun r _ H locs hw hP hD hS => ?_)
    have hw : r = q.1 := hw
    subst hw
    refine lv_i2l (v := Int32.toInt64 q.1) hx hb dn_L_feed_14 rfl ?_
    refine va_last hx hb hK hP hD hS 122 2 rfl rfl (show ¬ (_ ∨ _) by decide) dn_L_feed_15 (fun H locs hP hD hS => ?_)
    have hP : va_P (dC, dI) xcl (wC a v cI cB cJ cZ cQ q.2 ++ ([(ho, .inl (cJ, 1, .inr (.inl (vp_updL o 0 (Int32.toInt64 q.1)))))] : va_W)) H := hP
    have hD : va_D A (wC a v cI cB cJ cZ cQ q.2 ++ ([(ho, .inl (cJ, 1, .inr (.inl (vp_updL o 0 (Int32.toInt64 q.1)))))] : va_W)) := hD
    refine lv_goto (tgt := 23) hx hb dn_L_feed_16 (by decide) ?_
    refine lv_iconst (v := 0) hx hb dn_L_feed_23 (by decide) ?_
    rw [← Option.some.inj hf]
    exact xk_iret (w1 := fun _ : Unit => (wC a v cI cB cJ cZ cQ q.2 ++ ([(ho, .inl (cJ, 1, .inr (.inl (vp_updL o 0 (Int32.toInt64 q.1)))))] : va_W))) () hx hb hr hlocks hK hS dn_L_feed_24 hP hD rfl (Nat.zero_le _) (Nat.zero_le _)
set_option maxHeartbeats 8000000 in
set_option maxRecDepth 100000 in
theorem hc_end (l : Launch) (hlt : l.stackTraces = false) (dC : Nat → ClassId) (dI : Nat → Nat → Nat) (cI cB cJ cZ cQ : ClassId) (N sz : Nat) (a : Nat → Nat) (v : Nat → Value) (ho : Nat) (v1 : Int32) (s : ms) (o : Nat → Int64) (y : Int32 × ms × (Nat → Int64)) (hf : hp_end N v1 s o = some y) : Met l yn_L_end (Cond.codeWith yn_L_end bn_L_end 3 (some .int) [(0, 5, 8, 19)] :: xw_G) ({ frames := 7, cells := 1, slots := 6, locals := 121 }) (dc_PX (dC, dI) xcl (xt cI cB cJ cZ cQ) [.ref ((a 100)), .int v1] sz (wC a v cI cB cJ cZ cQ s ++ ([(ho, .inl (cJ, 1, .inr (.inl o)))] : va_W))) (xk_Qi (dC, dI) xcl (xt cI cB cJ cZ cQ) (fun (r : Int32) (_ : Unit) => r = y.1) (fun _ : Unit => (wC a v cI cB cJ cZ cQ y.2.1 ++ ([(ho, .inl (cJ, 1, .inr (.inl y.2.2)))] : va_W))) (va_A (wC a v cI cB cJ cZ cQ s ++ ([(ho, .inl (cJ, 1, .inr (.inl o)))] : va_W)) sz)) 1 6 (va_A (wC a v cI cB cJ cZ cQ s ++ ([(ho, .inl (cJ, 1, .inr (.inl o)))] : va_W)) sz) := by
  refine dc_ofH (QA := xk_Qi (dC, dI) xcl (xt cI cB cJ cZ cQ) (fun (r : Int32) (_ : Unit) => r = y.1) (fun _ : Unit => (wC a v cI cB cJ cZ cQ y.2.1 ++ ([(ho, .inl (cJ, 1, .inr (.inl y.2.2)))] : va_W)))) (by decide) (Nat.le_of_ble_eq_true rfl) ?_
  intro p e s0 m below meth c hx hb hml hown hg hr hlocks htab hno hst hP hK hN A hA hD hT ls hl
  have hown : s0.vm.findClass rn_L = some m.cls := hown
  have hl : lv_has ls 3 [(0, .ref ((a 100))), (1, .int v1)] := hl
  obtain ⟨H, hH⟩ : ∃ z, z = s0.heap := ⟨_, rfl⟩
  rw [← hH] at hP
  have hS : va_S A s0.heap H [] := by rw [hH]; exact va_S.rf
  suffices kk : W p l e ({ frames := 7, cells := 1, slots := 6, locals := 121 }) s0 m [.ref ((a 100)), .int v1].toArray below meth c H [] 0 0 (MQ below (xk_Qi (dC, dI) xcl (xt cI cB cJ cZ cQ) (fun (r : Int32) (_ : Unit) => r = y.1) (fun _ : Unit => (wC a v cI cB cJ cZ cQ y.2.1 ++ ([(ho, .inl (cJ, 1, .inr (.inl y.2.2)))] : va_W))) A) [.ref ((a 100)), .int v1].toArray s0 1 6 A) (F0 m 0 ls []) by rw [hH] at kk; exact kk
  unfold hp_end at hf
  refine lv_aload_n hx hb dn_L_end_0 rfl (lv_at hl 0 rfl) ?_
  refine lv_iload_n hx hb dn_L_end_1 rfl (lv_at hl 1 rfl) ?_
  cases htx : tx_C_end_C N v1 s with
  | some k =>
    rw [htx] at hf
    have hf : (if k = 1 then some (1, s, o) else none) = some y := hf
    by_cases hk0 : k = 1
    · subst hk0
      have hf := (if_pos rfl).symm.trans hf
      have hpre : ∀ r ∈ ([] : List (Nat × Nat × Nat × Nat)), r.1 ≤ 2 ∧ 2 < r.2.1 ∧ r.2.2.2 ≠ 0 ∧ ∃ nm : String, Cond.classLink rn_L r.2.2.2 nm ∈ xw_G ∧ ("java/lang/IllegalArgumentException", nm) ∈ xs_NL := by
        intro r hr
        cases hr
      refine dc_callX (cls := "java/lang/IllegalArgumentException") (pre := []) (ar := 1) (As := [.int v1]) (rest := []) (ci := 1) (q0 := 0) ⟨hx, hb, hml, hown, hg⟩ hK hN (tc_C_end_C l hlt dC dI cI cB cJ cZ cQ N H.size a v v1 s 1 htx) hP hS (va_P_l hP) (va_D_l hD) rfl rfl hno hst hH wn_7_101 wn_7_102 wn_7_103 wn_1_1 wn_7_104 rfl rfl (by decide +kernel) ⟨Nat.le_of_ble_eq_true rfl, Nat.le_of_ble_eq_true rfl⟩ rfl hl.1 rfl (Nat.le_of_ble_eq_true rfl) dn_L_end_2 ⟨Nat.le_of_ble_eq_true rfl, Nat.le_of_ble_eq_true rfl⟩ htab (by decide) (by decide) wn_7_100 (by decide +kernel) hpre (fun qx H hP hS => ?_)
      refine lv_astore_n (lv' := [(2, .ref qx), (0, .ref ((a 100))), (1, .int v1)]) hx hb dn_L_end_8 rfl hl (by decide) rfl (fun ls hl => ?_)
      refine lv_iconst (v := 1) hx hb dn_L_end_9 (by decide) ?_
      rw [← Option.some.inj hf]
      exact xk_iret (w1 := fun _ : Unit => (wC a v cI cB cJ cZ cQ s ++ ([(ho, .inl (cJ, 1, .inr (.inl o)))] : va_W))) () hx hb hr hlocks hK hS dn_L_end_10 hP hD rfl (Nat.le_refl _) (Nat.le_refl _)
    have hf := (if_neg hk0).symm.trans hf
    cases hf
  | none =>
    rw [htx] at hf
    obtain ⟨q, hc, hf⟩ := dc_b hf
    refine dc_callvA (dc_runV (ar := 1) (As := [.int v1]) (rest := []) (ci := 1) (q0 := 0) ⟨hx, hb, hml, hown, hg⟩ hK hN hT hS hA (ct_C_end_C l dC dI cI cB cJ cZ cQ N H.size a v v1 s q hc) (va_P_l hP) (va_D_l hD) rfl rfl wn_7_101 wn_7_102 wn_7_103 wn_1_1 wn_7_104 rfl rfl (by decide +kernel) ⟨Nat.le_of_ble_eq_true rfl, Nat.le_of_ble_eq_true rfl⟩ rfl hl.1 rfl (Nat.le_of_ble_eq_true rfl) dn_L_end_2 ⟨Nat.le_of_ble_eq_true rfl, Nat.le_of_ble_eq_true rfl⟩) hP hD hS hA (fun _ H locs hw hP hD hS => ?_)
    refine lv_goto (tgt := 11) hx hb dn_L_end_5 (by decide) ?_
    refine lv_iconst (v := 0) hx hb dn_L_end_11 (by decide) ?_
    rw [← Option.some.inj hf]
    exact xk_iret (w1 := fun _ : Unit => (wC a v cI cB cJ cZ cQ q.2 ++ ([(ho, .inl (cJ, 1, .inr (.inl o)))] : va_W))) () hx hb hr hlocks hK hS dn_L_end_12 hP hD rfl (Nat.zero_le _) (Nat.zero_le _)
set_option maxHeartbeats 8000000 in
set_option maxRecDepth 100000 in
theorem hc_count (l : Launch) (hlt : l.stackTraces = false) (dC : Nat → ClassId) (dI : Nat → Nat → Nat) (cI cB cJ cZ cQ : ClassId) (N sz : Nat) (a : Nat → Nat) (v : Nat → Value) (ho : Nat) (v1 : Int32) (s : ms) (o : Nat → Int64) (y : Int32 × ms × (Nat → Int64)) (hf : hp_count N v1 s o = some y) : Met l yn_L_count (Cond.codeWith yn_L_count bn_L_count 4 (some .int) [(0, 9, 12, 25), (0, 9, 15, 19)] :: xw_G) ({ frames := 7, cells := 1, slots := 6, locals := 122 }) (dc_PX (dC, dI) xcl (xt cI cB cJ cZ cQ) [.ref ((a 100)), .int v1, .ref ho] sz (wC a v cI cB cJ cZ cQ s ++ ([(ho, .inl (cJ, 1, .inr (.inl o)))] : va_W))) (xk_Qi (dC, dI) xcl (xt cI cB cJ cZ cQ) (fun (r : Int32) (_ : Unit) => r = y.1) (fun _ : Unit => (wC a v cI cB cJ cZ cQ y.2.1 ++ ([(ho, .inl (cJ, 1, .inr (.inl y.2.2)))] : va_W))) (va_A (wC a v cI cB cJ cZ cQ s ++ ([(ho, .inl (cJ, 1, .inr (.inl o)))] : va_W)) sz)) 1 6 (va_A (wC a v cI cB cJ cZ cQ s ++ ([(ho, .inl (cJ, 1, .inr (.inl o)))] : va_W)) sz) := by
  refine dc_ofH (QA := xk_Qi (dC, dI) xcl (xt cI cB cJ cZ cQ) (fun (r : Int32) (_ : Unit) => r = y.1) (fun _ : Unit => (wC a v cI cB cJ cZ cQ y.2.1 ++ ([(ho, .inl (cJ, 1, .inr (.inl y.2.2)))] : va_W)))) (by decide) (Nat.le_of_ble_eq_true rfl) ?_
  intro p e s0 m below meth c hx hb hml hown hg hr hlocks htab hno hst hP hK hN A hA hD hT ls hl
  have hown : s0.vm.findClass rn_L = some m.cls := hown
  have hl : lv_has ls 4 [(0, .ref ((a 100))), (1, .int v1), (2, .ref ho)] := hl
  obtain ⟨H, hH⟩ : ∃ z, z = s0.heap := ⟨_, rfl⟩
  rw [← hH] at hP
  have hS : va_S A s0.heap H [] := by rw [hH]; exact va_S.rf
  suffices kk : W p l e ({ frames := 7, cells := 1, slots := 6, locals := 122 }) s0 m [.ref ((a 100)), .int v1, .ref ho].toArray below meth c H [] 0 0 (MQ below (xk_Qi (dC, dI) xcl (xt cI cB cJ cZ cQ) (fun (r : Int32) (_ : Unit) => r = y.1) (fun _ : Unit => (wC a v cI cB cJ cZ cQ y.2.1 ++ ([(ho, .inl (cJ, 1, .inr (.inl y.2.2)))] : va_W))) A) [.ref ((a 100)), .int v1, .ref ho].toArray s0 1 6 A) (F0 m 0 ls []) by rw [hH] at kk; exact kk
  unfold hp_count at hf
  refine lv_aload_n hx hb dn_L_count_0 rfl (lv_at hl 2 rfl) ?_
  refine lv_iconst (v := 0) hx hb dn_L_count_1 (by decide) ?_
  refine lv_aload_n hx hb dn_L_count_2 rfl (lv_at hl 0 rfl) ?_
  refine lv_iload_n hx hb dn_L_count_3 rfl (lv_at hl 1 rfl) ?_
  cases htx : tx_C_count_C N v1 s with
  | some k =>
    rw [htx] at hf
    have hf : (if k = 2 then some (1, s, o) else (if k = 1 then some (2, s, o) else none)) = some y := hf
    by_cases hk0 : k = 2
    · subst hk0
      have hf := (if_pos rfl).symm.trans hf
      have hpre : ∀ r ∈ ([] : List (Nat × Nat × Nat × Nat)), r.1 ≤ 4 ∧ 4 < r.2.1 ∧ r.2.2.2 ≠ 0 ∧ ∃ nm : String, Cond.classLink rn_L r.2.2.2 nm ∈ xw_G ∧ ("java/lang/IllegalStateException", nm) ∈ xs_NL := by
        intro r hr
        cases hr
      refine dc_callX (cls := "java/lang/IllegalStateException") (pre := []) (ar := 1) (As := [.int v1]) (rest := [.int 0, .ref ho]) (ci := 1) (q0 := 0) ⟨hx, hb, hml, hown, hg⟩ hK hN (tc_C_count_C l hlt dC dI cI cB cJ cZ cQ N H.size a v v1 s 2 htx) hP hS (va_P_l hP) (va_D_l hD) rfl rfl hno hst hH wn_7_124 wn_7_125 wn_7_126 wn_1_1 wn_7_127 rfl rfl (by decide +kernel) ⟨Nat.le_of_ble_eq_true rfl, Nat.le_of_ble_eq_true rfl⟩ rfl hl.1 rfl (Nat.le_of_ble_eq_true rfl) dn_L_count_4 ⟨Nat.le_of_ble_eq_true rfl, Nat.le_of_ble_eq_true rfl⟩ htab (by decide) (by decide) wn_7_123 (by decide +kernel) hpre (fun qx H hP hS => ?_)
      refine lv_astore_n (lv' := [(3, .ref qx), (0, .ref ((a 100))), (1, .int v1), (2, .ref ho)]) hx hb dn_L_count_12 rfl hl (by decide) rfl (fun ls hl => ?_)
      refine lv_iconst (v := 1) hx hb dn_L_count_13 (by decide) ?_
      rw [← Option.some.inj hf]
      exact xk_iret (w1 := fun _ : Unit => (wC a v cI cB cJ cZ cQ s ++ ([(ho, .inl (cJ, 1, .inr (.inl o)))] : va_W))) () hx hb hr hlocks hK hS dn_L_count_14 hP hD rfl (Nat.le_refl _) (Nat.le_refl _)
    have hf := (if_neg hk0).symm.trans hf
    by_cases hk1 : k = 1
    · subst hk1
      have hf := (if_pos rfl).symm.trans hf
      have hpre : ∀ r ∈ ([(0, 9, 12, 25)] : List (Nat × Nat × Nat × Nat)), r.1 ≤ 4 ∧ 4 < r.2.1 ∧ r.2.2.2 ≠ 0 ∧ ∃ nm : String, Cond.classLink rn_L r.2.2.2 nm ∈ xw_G ∧ ("java/lang/IllegalArgumentException", nm) ∈ xs_NL := by
        intro r hr
        rcases List.mem_cons.mp hr with rfl | hr
        · exact ⟨by decide, by decide, by decide, "java/lang/IllegalStateException", wn_7_123, by decide +kernel⟩
        cases hr
      refine dc_callX (cls := "java/lang/IllegalArgumentException") (pre := [(0, 9, 12, 25)]) (ar := 1) (As := [.int v1]) (rest := [.int 0, .ref ho]) (ci := 1) (q0 := 0) ⟨hx, hb, hml, hown, hg⟩ hK hN (tc_C_count_C l hlt dC dI cI cB cJ cZ cQ N H.size a v v1 s 1 htx) hP hS (va_P_l hP) (va_D_l hD) rfl rfl hno hst hH wn_7_124 wn_7_125 wn_7_126 wn_1_1 wn_7_127 rfl rfl (by decide +kernel) ⟨Nat.le_of_ble_eq_true rfl, Nat.le_of_ble_eq_true rfl⟩ rfl hl.1 rfl (Nat.le_of_ble_eq_true rfl) dn_L_count_4 ⟨Nat.le_of_ble_eq_true rfl, Nat.le_of_ble_eq_true rfl⟩ htab (by decide) (by decide) wn_7_100 (by decide +kernel) hpre (fun qx H hP hS => ?_)
      refine lv_astore_n (lv' := [(3, .ref qx), (0, .ref ((a 100))), (1, .int v1), (2, .ref ho)]) hx hb dn_L_count_15 rfl hl (by decide) rfl (fun ls hl => ?_)
      refine lv_iconst (v := 2) hx hb dn_L_count_16 (by decide) ?_
      rw [← Option.some.inj hf]
      exact xk_iret (w1 := fun _ : Unit => (wC a v cI cB cJ cZ cQ s ++ ([(ho, .inl (cJ, 1, .inr (.inl o)))] : va_W))) () hx hb hr hlocks hK hS dn_L_count_17 hP hD rfl (Nat.le_refl _) (Nat.le_refl _)
    have hf := (if_neg hk1).symm.trans hf
    cases hf
  | none =>
    rw [htx] at hf
    obtain ⟨q, hc, hf⟩ := dc_b hf
    refine dc_calliA (dc_runV (ar := 1) (As := [.int v1]) (rest := [.int 0, .ref ho]) (ci := 1) (q0 := 0) ⟨hx, hb, hml, hown, hg⟩ hK hN hT hS hA (ct_C_count_C l dC dI cI cB cJ cZ cQ N H.size a v v1 s q hc) (va_P_l hP) (va_D_l hD) rfl rfl wn_7_124 wn_7_125 wn_7_126 wn_1_1 wn_7_127 rfl rfl (by decide +kernel) ⟨Nat.le_of_ble_eq_true rfl, Nat.le_of_ble_eq_true rfl⟩ rfl hl.1 rfl (Nat.le_of_ble_eq_true rfl) dn_L_count_4 ⟨Nat.le_of_ble_eq_true rfl, Nat.le_of_ble_eq_true rfl⟩) hP hD hS hA (fun r _ H locs hw hP hD hS => ?_)
    have hw : r = q.1 := hw
    subst hw
    refine lv_i2l (v := Int32.toInt64 q.1) hx hb dn_L_count_7 rfl ?_
    refine va_last hx hb hK hP hD hS 122 2 rfl rfl (show ¬ (_ ∨ _) by decide) dn_L_count_8 (fun H locs hP hD hS => ?_)
    have hP : va_P (dC, dI) xcl (wC a v cI cB cJ cZ cQ q.2 ++ ([(ho, .inl (cJ, 1, .inr (.inl (vp_updL o 0 (Int32.toInt64 q.1)))))] : va_W)) H := hP
    have hD : va_D A (wC a v cI cB cJ cZ cQ q.2 ++ ([(ho, .inl (cJ, 1, .inr (.inl (vp_updL o 0 (Int32.toInt64 q.1)))))] : va_W)) := hD
    refine lv_goto (tgt := 18) hx hb dn_L_count_9 (by decide) ?_
    refine lv_iconst (v := 0) hx hb dn_L_count_18 (by decide) ?_
    rw [← Option.some.inj hf]
    exact xk_iret (w1 := fun _ : Unit => (wC a v cI cB cJ cZ cQ q.2 ++ ([(ho, .inl (cJ, 1, .inr (.inl (vp_updL o 0 (Int32.toInt64 q.1)))))] : va_W))) () hx hb hr hlocks hK hS dn_L_count_19 hP hD rfl (Nat.zero_le _) (Nat.zero_le _)
set_option maxHeartbeats 8000000 in
set_option maxRecDepth 100000 in
theorem hc_find (l : Launch) (hlt : l.stackTraces = false) (dC : Nat → ClassId) (dI : Nat → Nat → Nat) (cI cB cJ cZ cQ : ClassId) (N sz : Nat) (a : Nat → Nat) (v : Nat → Value) (ho : Nat) (s : ms) (o : Nat → Int64) (y : Int32 × ms × (Nat → Int64)) (hf : hp_find N s o = some y) : Met l yn_L_find (Cond.codeWith yn_L_find bn_L_find 3 (some .int) [(0, 8, 11, 25)] :: xw_G) ({ frames := 7, cells := 1, slots := 6, locals := 138 }) (dc_PX (dC, dI) xcl (xt cI cB cJ cZ cQ) [.ref ((a 100)), .ref ho] sz (wC a v cI cB cJ cZ cQ s ++ ([(ho, .inl (cJ, 1, .inr (.inl o)))] : va_W))) (xk_Qi (dC, dI) xcl (xt cI cB cJ cZ cQ) (fun (r : Int32) (_ : Unit) => r = y.1) (fun _ : Unit => (wC a v cI cB cJ cZ cQ y.2.1 ++ ([(ho, .inl (cJ, 1, .inr (.inl y.2.2)))] : va_W))) (va_A (wC a v cI cB cJ cZ cQ s ++ ([(ho, .inl (cJ, 1, .inr (.inl o)))] : va_W)) sz)) 1 6 (va_A (wC a v cI cB cJ cZ cQ s ++ ([(ho, .inl (cJ, 1, .inr (.inl o)))] : va_W)) sz) := by
  refine dc_ofH (QA := xk_Qi (dC, dI) xcl (xt cI cB cJ cZ cQ) (fun (r : Int32) (_ : Unit) => r = y.1) (fun _ : Unit => (wC a v cI cB cJ cZ cQ y.2.1 ++ ([(ho, .inl (cJ, 1, .inr (.inl y.2.2)))] : va_W)))) (by decide) (Nat.le_of_ble_eq_true rfl) ?_
  intro p e s0 m below meth c hx hb hml hown hg hr hlocks htab hno hst hP hK hN A hA hD hT ls hl
  have hown : s0.vm.findClass rn_L = some m.cls := hown
  have hl : lv_has ls 3 [(0, .ref ((a 100))), (1, .ref ho)] := hl
  obtain ⟨H, hH⟩ : ∃ z, z = s0.heap := ⟨_, rfl⟩
  rw [← hH] at hP
  have hS : va_S A s0.heap H [] := by rw [hH]; exact va_S.rf
  suffices kk : W p l e ({ frames := 7, cells := 1, slots := 6, locals := 138 }) s0 m [.ref ((a 100)), .ref ho].toArray below meth c H [] 0 0 (MQ below (xk_Qi (dC, dI) xcl (xt cI cB cJ cZ cQ) (fun (r : Int32) (_ : Unit) => r = y.1) (fun _ : Unit => (wC a v cI cB cJ cZ cQ y.2.1 ++ ([(ho, .inl (cJ, 1, .inr (.inl y.2.2)))] : va_W))) A) [.ref ((a 100)), .ref ho].toArray s0 1 6 A) (F0 m 0 ls []) by rw [hH] at kk; exact kk
  unfold hp_find at hf
  refine lv_aload_n hx hb dn_L_find_0 rfl (lv_at hl 1 rfl) ?_
  refine lv_iconst (v := 0) hx hb dn_L_find_1 (by decide) ?_
  refine lv_aload_n hx hb dn_L_find_2 rfl (lv_at hl 0 rfl) ?_
  cases htx : tx_C_find_C N s with
  | some k =>
    rw [htx] at hf
    have hf : (if k = 2 then some (1, s, o) else none) = some y := hf
    by_cases hk0 : k = 2
    · subst hk0
      have hf := (if_pos rfl).symm.trans hf
      have hpre : ∀ r ∈ ([] : List (Nat × Nat × Nat × Nat)), r.1 ≤ 3 ∧ 3 < r.2.1 ∧ r.2.2.2 ≠ 0 ∧ ∃ nm : String, Cond.classLink rn_L r.2.2.2 nm ∈ xw_G ∧ ("java/lang/IllegalStateException", nm) ∈ xs_NL := by
        intro r hr
        cases hr
      refine dc_callX (cls := "java/lang/IllegalStateException") (pre := []) (ar := 0) (As := []) (rest := [.int 0, .ref ho]) (ci := 1) (q0 := 0) ⟨hx, hb, hml, hown, hg⟩ hK hN (tc_C_find_C l hlt dC dI cI cB cJ cZ cQ N H.size a v s 2 htx) hP hS (va_P_l hP) (va_D_l hD) rfl rfl hno hst hH wn_7_147 wn_7_148 wn_7_149 wn_1_1 wn_7_150 rfl rfl (by decide +kernel) ⟨Nat.le_of_ble_eq_true rfl, Nat.le_of_ble_eq_true rfl⟩ rfl hl.1 rfl (Nat.le_of_ble_eq_true rfl) dn_L_find_3 ⟨Nat.le_of_ble_eq_true rfl, Nat.le_of_ble_eq_true rfl⟩ htab (by decide) (by decide) wn_7_123 (by decide +kernel) hpre (fun qx H hP hS => ?_)
      refine lv_astore_n (lv' := [(2, .ref qx), (0, .ref ((a 100))), (1, .ref ho)]) hx hb dn_L_find_11 rfl hl (by decide) rfl (fun ls hl => ?_)
      refine lv_iconst (v := 1) hx hb dn_L_find_12 (by decide) ?_
      rw [← Option.some.inj hf]
      exact xk_iret (w1 := fun _ : Unit => (wC a v cI cB cJ cZ cQ s ++ ([(ho, .inl (cJ, 1, .inr (.inl o)))] : va_W))) () hx hb hr hlocks hK hS dn_L_find_13 hP hD rfl (Nat.le_refl _) (Nat.le_refl _)
    have hf := (if_neg hk0).symm.trans hf
    cases hf
  | none =>
    rw [htx] at hf
    obtain ⟨q, hc, hf⟩ := dc_b hf
    refine dc_calliA (dc_runV (ar := 0) (As := []) (rest := [.int 0, .ref ho]) (ci := 1) (q0 := 0) ⟨hx, hb, hml, hown, hg⟩ hK hN hT hS hA (ct_C_find_C l dC dI cI cB cJ cZ cQ N H.size a v s q hc) (va_P_l hP) (va_D_l hD) rfl rfl wn_7_147 wn_7_148 wn_7_149 wn_1_1 wn_7_150 rfl rfl (by decide +kernel) ⟨Nat.le_of_ble_eq_true rfl, Nat.le_of_ble_eq_true rfl⟩ rfl hl.1 rfl (Nat.le_of_ble_eq_true rfl) dn_L_find_3 ⟨Nat.le_of_ble_eq_true rfl, Nat.le_of_ble_eq_true rfl⟩) hP hD hS hA (fun r _ H locs hw hP hD hS => ?_)
    have hw : r = q.1 := hw
    subst hw
    refine lv_i2l (v := Int32.toInt64 q.1) hx hb dn_L_find_6 rfl ?_
    refine va_last hx hb hK hP hD hS 122 2 rfl rfl (show ¬ (_ ∨ _) by decide) dn_L_find_7 (fun H locs hP hD hS => ?_)
    have hP : va_P (dC, dI) xcl (wC a v cI cB cJ cZ cQ q.2 ++ ([(ho, .inl (cJ, 1, .inr (.inl (vp_updL o 0 (Int32.toInt64 q.1)))))] : va_W)) H := hP
    have hD : va_D A (wC a v cI cB cJ cZ cQ q.2 ++ ([(ho, .inl (cJ, 1, .inr (.inl (vp_updL o 0 (Int32.toInt64 q.1)))))] : va_W)) := hD
    refine lv_goto (tgt := 14) hx hb dn_L_find_8 (by decide) ?_
    refine lv_iconst (v := 0) hx hb dn_L_find_14 (by decide) ?_
    rw [← Option.some.inj hf]
    exact xk_iret (w1 := fun _ : Unit => (wC a v cI cB cJ cZ cQ q.2 ++ ([(ho, .inl (cJ, 1, .inr (.inl (vp_updL o 0 (Int32.toInt64 q.1)))))] : va_W))) () hx hb hr hlocks hK hS dn_L_find_15 hP hD rfl (Nat.zero_le _) (Nat.zero_le _)
set_option maxHeartbeats 8000000 in
set_option maxRecDepth 100000 in
theorem hc_signal (l : Launch) (hlt : l.stackTraces = false) (dC : Nat → ClassId) (dI : Nat → Nat → Nat) (cI cB cJ cZ cQ : ClassId) (N sz : Nat) (a : Nat → Nat) (v : Nat → Value) (ho : Nat) (v1 : Int32) (v2 : Int32) (s : ms) (o : Nat → Int64) (y : Int32 × ms × (Nat → Int64)) (hf : hp_signal N v1 v2 s o = some y) : Met l yn_L_signal (Cond.codeWith yn_L_signal bn_L_signal 5 (some .int) [(0, 10, 13, 25), (0, 10, 17, 35), (0, 10, 21, 19)] :: xw_G) ({ frames := 7, cells := 1, slots := 6, locals := 122 }) (dc_PX (dC, dI) xcl (xt cI cB cJ cZ cQ) [.ref ((a 100)), .int v1, .int v2, .ref ho] sz (wC a v cI cB cJ cZ cQ s ++ ([(ho, .inl (cJ, 1, .inr (.inl o)))] : va_W))) (xk_Qi (dC, dI) xcl (xt cI cB cJ cZ cQ) (fun (r : Int32) (_ : Unit) => r = y.1) (fun _ : Unit => (wC a v cI cB cJ cZ cQ y.2.1 ++ ([(ho, .inl (cJ, 1, .inr (.inl y.2.2)))] : va_W))) (va_A (wC a v cI cB cJ cZ cQ s ++ ([(ho, .inl (cJ, 1, .inr (.inl o)))] : va_W)) sz)) 1 6 (va_A (wC a v cI cB cJ cZ cQ s ++ ([(ho, .inl (cJ, 1, .inr (.inl o)))] : va_W)) sz) := by
  refine dc_ofH (QA := xk_Qi (dC, dI) xcl (xt cI cB cJ cZ cQ) (fun (r : Int32) (_ : Unit) => r = y.1) (fun _ : Unit => (wC a v cI cB cJ cZ cQ y.2.1 ++ ([(ho, .inl (cJ, 1, .inr (.inl y.2.2)))] : va_W)))) (by decide) (Nat.le_of_ble_eq_true rfl) ?_
  intro p e s0 m below meth c hx hb hml hown hg hr hlocks htab hno hst hP hK hN A hA hD hT ls hl
  have hown : s0.vm.findClass rn_L = some m.cls := hown
  have hl : lv_has ls 5 [(0, .ref ((a 100))), (1, .int v1), (2, .int v2), (3, .ref ho)] := hl
  obtain ⟨H, hH⟩ : ∃ z, z = s0.heap := ⟨_, rfl⟩
  rw [← hH] at hP
  have hS : va_S A s0.heap H [] := by rw [hH]; exact va_S.rf
  suffices kk : W p l e ({ frames := 7, cells := 1, slots := 6, locals := 122 }) s0 m [.ref ((a 100)), .int v1, .int v2, .ref ho].toArray below meth c H [] 0 0 (MQ below (xk_Qi (dC, dI) xcl (xt cI cB cJ cZ cQ) (fun (r : Int32) (_ : Unit) => r = y.1) (fun _ : Unit => (wC a v cI cB cJ cZ cQ y.2.1 ++ ([(ho, .inl (cJ, 1, .inr (.inl y.2.2)))] : va_W))) A) [.ref ((a 100)), .int v1, .int v2, .ref ho].toArray s0 1 6 A) (F0 m 0 ls []) by rw [hH] at kk; exact kk
  unfold hp_signal at hf
  refine lv_aload_n hx hb dn_L_signal_0 rfl (lv_at hl 3 rfl) ?_
  refine lv_iconst (v := 0) hx hb dn_L_signal_1 (by decide) ?_
  refine lv_aload_n hx hb dn_L_signal_2 rfl (lv_at hl 0 rfl) ?_
  refine lv_iload_n hx hb dn_L_signal_3 rfl (lv_at hl 1 rfl) ?_
  refine lv_iload_n hx hb dn_L_signal_4 rfl (lv_at hl 2 rfl) ?_
  cases htx : tx_C_signal_C N v1 v2 s with
  | some k =>
    rw [htx] at hf
    have hf : (if k = 2 then some (1, s, o) else (if k = 3 then some (2, s, o) else (if k = 1 then some (3, s, o) else none))) = some y := hf
    by_cases hk0 : k = 2
    · subst hk0
      have hf := (if_pos rfl).symm.trans hf
      have hpre : ∀ r ∈ ([] : List (Nat × Nat × Nat × Nat)), r.1 ≤ 5 ∧ 5 < r.2.1 ∧ r.2.2.2 ≠ 0 ∧ ∃ nm : String, Cond.classLink rn_L r.2.2.2 nm ∈ xw_G ∧ ("java/lang/IllegalStateException", nm) ∈ xs_NL := by
        intro r hr
        cases hr
      refine dc_callX (cls := "java/lang/IllegalStateException") (pre := []) (ar := 2) (As := [.int v1, .int v2]) (rest := [.int 0, .ref ho]) (ci := 1) (q0 := 0) ⟨hx, hb, hml, hown, hg⟩ hK hN (tc_C_signal_C l hlt dC dI cI cB cJ cZ cQ N H.size a v v1 v2 s 2 htx) hP hS (va_P_l hP) (va_D_l hD) rfl rfl hno hst hH wn_7_173 wn_7_174 wn_7_175 wn_1_1 wn_7_176 rfl rfl (by decide +kernel) ⟨Nat.le_of_ble_eq_true rfl, Nat.le_of_ble_eq_true rfl⟩ rfl hl.1 rfl (Nat.le_of_ble_eq_true rfl) dn_L_signal_5 ⟨Nat.le_of_ble_eq_true rfl, Nat.le_of_ble_eq_true rfl⟩ htab (by decide) (by decide) wn_7_123 (by decide +kernel) hpre (fun qx H hP hS => ?_)
      refine lv_astore (lv' := [(4, .ref qx), (0, .ref ((a 100))), (1, .int v1), (2, .int v2), (3, .ref ho)]) hx hb dn_L_signal_13 hl (by decide) rfl (fun ls hl => ?_)
      refine lv_iconst (v := 1) hx hb dn_L_signal_15 (by decide) ?_
      rw [← Option.some.inj hf]
      exact xk_iret (w1 := fun _ : Unit => (wC a v cI cB cJ cZ cQ s ++ ([(ho, .inl (cJ, 1, .inr (.inl o)))] : va_W))) () hx hb hr hlocks hK hS dn_L_signal_16 hP hD rfl (Nat.le_refl _) (Nat.le_refl _)
    have hf := (if_neg hk0).symm.trans hf
    by_cases hk1 : k = 3
    · subst hk1
      have hf := (if_pos rfl).symm.trans hf
      have hpre : ∀ r ∈ ([(0, 10, 13, 25)] : List (Nat × Nat × Nat × Nat)), r.1 ≤ 5 ∧ 5 < r.2.1 ∧ r.2.2.2 ≠ 0 ∧ ∃ nm : String, Cond.classLink rn_L r.2.2.2 nm ∈ xw_G ∧ ("java/lang/IndexOutOfBoundsException", nm) ∈ xs_NL := by
        intro r hr
        rcases List.mem_cons.mp hr with rfl | hr
        · exact ⟨by decide, by decide, by decide, "java/lang/IllegalStateException", wn_7_123, by decide +kernel⟩
        cases hr
      refine dc_callX (cls := "java/lang/IndexOutOfBoundsException") (pre := [(0, 10, 13, 25)]) (ar := 2) (As := [.int v1, .int v2]) (rest := [.int 0, .ref ho]) (ci := 1) (q0 := 0) ⟨hx, hb, hml, hown, hg⟩ hK hN (tc_C_signal_C l hlt dC dI cI cB cJ cZ cQ N H.size a v v1 v2 s 3 htx) hP hS (va_P_l hP) (va_D_l hD) rfl rfl hno hst hH wn_7_173 wn_7_174 wn_7_175 wn_1_1 wn_7_176 rfl rfl (by decide +kernel) ⟨Nat.le_of_ble_eq_true rfl, Nat.le_of_ble_eq_true rfl⟩ rfl hl.1 rfl (Nat.le_of_ble_eq_true rfl) dn_L_signal_5 ⟨Nat.le_of_ble_eq_true rfl, Nat.le_of_ble_eq_true rfl⟩ htab (by decide) (by decide) wn_7_172 (by decide +kernel) hpre (fun qx H hP hS => ?_)
      refine lv_astore (lv' := [(4, .ref qx), (0, .ref ((a 100))), (1, .int v1), (2, .int v2), (3, .ref ho)]) hx hb dn_L_signal_17 hl (by decide) rfl (fun ls hl => ?_)
      refine lv_iconst (v := 2) hx hb dn_L_signal_19 (by decide) ?_
      rw [← Option.some.inj hf]
      exact xk_iret (w1 := fun _ : Unit => (wC a v cI cB cJ cZ cQ s ++ ([(ho, .inl (cJ, 1, .inr (.inl o)))] : va_W))) () hx hb hr hlocks hK hS dn_L_signal_20 hP hD rfl (Nat.le_refl _) (Nat.le_refl _)
    have hf := (if_neg hk1).symm.trans hf
    by_cases hk2 : k = 1
    · subst hk2
      have hf := (if_pos rfl).symm.trans hf
      have hpre : ∀ r ∈ ([(0, 10, 13, 25), (0, 10, 17, 35)] : List (Nat × Nat × Nat × Nat)), r.1 ≤ 5 ∧ 5 < r.2.1 ∧ r.2.2.2 ≠ 0 ∧ ∃ nm : String, Cond.classLink rn_L r.2.2.2 nm ∈ xw_G ∧ ("java/lang/IllegalArgumentException", nm) ∈ xs_NL := by
        intro r hr
        rcases List.mem_cons.mp hr with rfl | hr
        · exact ⟨by decide, by decide, by decide, "java/lang/IllegalStateException", wn_7_123, by decide +kernel⟩
        rcases List.mem_cons.mp hr with rfl | hr
        · exact ⟨by decide, by decide, by decide, "java/lang/IndexOutOfBoundsException", wn_7_172, by decide +kernel⟩
        cases hr
      refine dc_callX (cls := "java/lang/IllegalArgumentException") (pre := [(0, 10, 13, 25), (0, 10, 17, 35)]) (ar := 2) (As := [.int v1, .int v2]) (rest := [.int 0, .ref ho]) (ci := 1) (q0 := 0) ⟨hx, hb, hml, hown, hg⟩ hK hN (tc_C_signal_C l hlt dC dI cI cB cJ cZ cQ N H.size a v v1 v2 s 1 htx) hP hS (va_P_l hP) (va_D_l hD) rfl rfl hno hst hH wn_7_173 wn_7_174 wn_7_175 wn_1_1 wn_7_176 rfl rfl (by decide +kernel) ⟨Nat.le_of_ble_eq_true rfl, Nat.le_of_ble_eq_true rfl⟩ rfl hl.1 rfl (Nat.le_of_ble_eq_true rfl) dn_L_signal_5 ⟨Nat.le_of_ble_eq_true rfl, Nat.le_of_ble_eq_true rfl⟩ htab (by decide) (by decide) wn_7_100 (by decide +kernel) hpre (fun qx H hP hS => ?_)
      refine lv_astore (lv' := [(4, .ref qx), (0, .ref ((a 100))), (1, .int v1), (2, .int v2), (3, .ref ho)]) hx hb dn_L_signal_21 hl (by decide) rfl (fun ls hl => ?_)
      refine lv_iconst (v := 3) hx hb dn_L_signal_23 (by decide) ?_
      rw [← Option.some.inj hf]
      exact xk_iret (w1 := fun _ : Unit => (wC a v cI cB cJ cZ cQ s ++ ([(ho, .inl (cJ, 1, .inr (.inl o)))] : va_W))) () hx hb hr hlocks hK hS dn_L_signal_24 hP hD rfl (Nat.le_refl _) (Nat.le_refl _)
    have hf := (if_neg hk2).symm.trans hf
    cases hf
  | none =>
    rw [htx] at hf
    obtain ⟨q, hc, hf⟩ := dc_b hf
    refine dc_calliA (dc_runV (ar := 2) (As := [.int v1, .int v2]) (rest := [.int 0, .ref ho]) (ci := 1) (q0 := 0) ⟨hx, hb, hml, hown, hg⟩ hK hN hT hS hA (ct_C_signal_C l dC dI cI cB cJ cZ cQ N H.size a v v1 v2 s q hc) (va_P_l hP) (va_D_l hD) rfl rfl wn_7_173 wn_7_174 wn_7_175 wn_1_1 wn_7_176 rfl rfl (by decide +kernel) ⟨Nat.le_of_ble_eq_true rfl, Nat.le_of_ble_eq_true rfl⟩ rfl hl.1 rfl (Nat.le_of_ble_eq_true rfl) dn_L_signal_5 ⟨Nat.le_of_ble_eq_true rfl, Nat.le_of_ble_eq_true rfl⟩) hP hD hS hA (fun r _ H locs hw hP hD hS => ?_)
    have hw : r = q.1 := hw
    subst hw
    refine lv_i2l (v := Int32.toInt64 q.1) hx hb dn_L_signal_8 rfl ?_
    refine va_last hx hb hK hP hD hS 122 2 rfl rfl (show ¬ (_ ∨ _) by decide) dn_L_signal_9 (fun H locs hP hD hS => ?_)
    have hP : va_P (dC, dI) xcl (wC a v cI cB cJ cZ cQ q.2 ++ ([(ho, .inl (cJ, 1, .inr (.inl (vp_updL o 0 (Int32.toInt64 q.1)))))] : va_W)) H := hP
    have hD : va_D A (wC a v cI cB cJ cZ cQ q.2 ++ ([(ho, .inl (cJ, 1, .inr (.inl (vp_updL o 0 (Int32.toInt64 q.1)))))] : va_W)) := hD
    refine lv_goto (tgt := 25) hx hb dn_L_signal_10 (by decide) ?_
    refine lv_iconst (v := 0) hx hb dn_L_signal_25 (by decide) ?_
    rw [← Option.some.inj hf]
    exact xk_iret (w1 := fun _ : Unit => (wC a v cI cB cJ cZ cQ q.2 ++ ([(ho, .inl (cJ, 1, .inr (.inl (vp_updL o 0 (Int32.toInt64 q.1)))))] : va_W))) () hx hb hr hlocks hK hS dn_L_signal_26 hP hD rfl (Nat.zero_le _) (Nat.zero_le _)
set_option maxHeartbeats 8000000 in
set_option maxRecDepth 100000 in
theorem hc_reset (l : Launch) (hlt : l.stackTraces = false) (dC : Nat → ClassId) (dI : Nat → Nat → Nat) (cI cB cJ cZ cQ : ClassId) (N sz : Nat) (a : Nat → Nat) (v : Nat → Value) (ho : Nat) (s : ms) (o : Nat → Int64) (y : Int32 × ms × (Nat → Int64)) (hf : hp_reset N s o = some y) : Met l yn_L_reset (Cond.codeWith yn_L_reset bn_L_reset 2 (some .int) [(0, 4, 7, 25)] :: xw_G) ({ frames := 7, cells := 1, slots := 6, locals := 120 }) (dc_PX (dC, dI) xcl (xt cI cB cJ cZ cQ) [.ref ((a 100))] sz (wC a v cI cB cJ cZ cQ s ++ ([(ho, .inl (cJ, 1, .inr (.inl o)))] : va_W))) (xk_Qi (dC, dI) xcl (xt cI cB cJ cZ cQ) (fun (r : Int32) (_ : Unit) => r = y.1) (fun _ : Unit => (wC a v cI cB cJ cZ cQ y.2.1 ++ ([(ho, .inl (cJ, 1, .inr (.inl y.2.2)))] : va_W))) (va_A (wC a v cI cB cJ cZ cQ s ++ ([(ho, .inl (cJ, 1, .inr (.inl o)))] : va_W)) sz)) 1 6 (va_A (wC a v cI cB cJ cZ cQ s ++ ([(ho, .inl (cJ, 1, .inr (.inl o)))] : va_W)) sz) := by
  refine dc_ofH (QA := xk_Qi (dC, dI) xcl (xt cI cB cJ cZ cQ) (fun (r : Int32) (_ : Unit) => r = y.1) (fun _ : Unit => (wC a v cI cB cJ cZ cQ y.2.1 ++ ([(ho, .inl (cJ, 1, .inr (.inl y.2.2)))] : va_W)))) (by decide) (Nat.le_of_ble_eq_true rfl) ?_
  intro p e s0 m below meth c hx hb hml hown hg hr hlocks htab hno hst hP hK hN A hA hD hT ls hl
  have hown : s0.vm.findClass rn_L = some m.cls := hown
  have hl : lv_has ls 2 [(0, .ref ((a 100)))] := hl
  obtain ⟨H, hH⟩ : ∃ z, z = s0.heap := ⟨_, rfl⟩
  rw [← hH] at hP
  have hS : va_S A s0.heap H [] := by rw [hH]; exact va_S.rf
  suffices kk : W p l e ({ frames := 7, cells := 1, slots := 6, locals := 120 }) s0 m [.ref ((a 100))].toArray below meth c H [] 0 0 (MQ below (xk_Qi (dC, dI) xcl (xt cI cB cJ cZ cQ) (fun (r : Int32) (_ : Unit) => r = y.1) (fun _ : Unit => (wC a v cI cB cJ cZ cQ y.2.1 ++ ([(ho, .inl (cJ, 1, .inr (.inl y.2.2)))] : va_W))) A) [.ref ((a 100))].toArray s0 1 6 A) (F0 m 0 ls []) by rw [hH] at kk; exact kk
  unfold hp_reset at hf
  refine lv_aload_n hx hb dn_L_reset_0 rfl (lv_at hl 0 rfl) ?_
  cases htx : tx_C_reset_C N s with
  | some k =>
    rw [htx] at hf
    have hf : (if k = 2 then some (1, s, o) else none) = some y := hf
    by_cases hk0 : k = 2
    · subst hk0
      have hf := (if_pos rfl).symm.trans hf
      have hpre : ∀ r ∈ ([] : List (Nat × Nat × Nat × Nat)), r.1 ≤ 1 ∧ 1 < r.2.1 ∧ r.2.2.2 ≠ 0 ∧ ∃ nm : String, Cond.classLink rn_L r.2.2.2 nm ∈ xw_G ∧ ("java/lang/IllegalStateException", nm) ∈ xs_NL := by
        intro r hr
        cases hr
      refine dc_callX (cls := "java/lang/IllegalStateException") (pre := []) (ar := 0) (As := []) (rest := []) (ci := 1) (q0 := 0) ⟨hx, hb, hml, hown, hg⟩ hK hN (tc_C_reset_C l hlt dC dI cI cB cJ cZ cQ N H.size a v s 2 htx) hP hS (va_P_l hP) (va_D_l hD) rfl rfl hno hst hH wn_7_203 wn_7_204 wn_7_205 wn_1_1 wn_7_206 rfl rfl (by decide +kernel) ⟨Nat.le_of_ble_eq_true rfl, Nat.le_of_ble_eq_true rfl⟩ rfl hl.1 rfl (Nat.le_of_ble_eq_true rfl) dn_L_reset_1 ⟨Nat.le_of_ble_eq_true rfl, Nat.le_of_ble_eq_true rfl⟩ htab (by decide) (by decide) wn_7_123 (by decide +kernel) hpre (fun qx H hP hS => ?_)
      refine lv_astore_n (lv' := [(1, .ref qx), (0, .ref ((a 100)))]) hx hb dn_L_reset_7 rfl hl (by decide) rfl (fun ls hl => ?_)
      refine lv_iconst (v := 1) hx hb dn_L_reset_8 (by decide) ?_
      rw [← Option.some.inj hf]
      exact xk_iret (w1 := fun _ : Unit => (wC a v cI cB cJ cZ cQ s ++ ([(ho, .inl (cJ, 1, .inr (.inl o)))] : va_W))) () hx hb hr hlocks hK hS dn_L_reset_9 hP hD rfl (Nat.le_refl _) (Nat.le_refl _)
    have hf := (if_neg hk0).symm.trans hf
    cases hf
  | none =>
    rw [htx] at hf
    obtain ⟨q, hc, hf⟩ := dc_b hf
    refine dc_callvA (dc_runV (ar := 0) (As := []) (rest := []) (ci := 1) (q0 := 0) ⟨hx, hb, hml, hown, hg⟩ hK hN hT hS hA (ct_C_reset_C l dC dI cI cB cJ cZ cQ N H.size a v s q hc) (va_P_l hP) (va_D_l hD) rfl rfl wn_7_203 wn_7_204 wn_7_205 wn_1_1 wn_7_206 rfl rfl (by decide +kernel) ⟨Nat.le_of_ble_eq_true rfl, Nat.le_of_ble_eq_true rfl⟩ rfl hl.1 rfl (Nat.le_of_ble_eq_true rfl) dn_L_reset_1 ⟨Nat.le_of_ble_eq_true rfl, Nat.le_of_ble_eq_true rfl⟩) hP hD hS hA (fun _ H locs hw hP hD hS => ?_)
    refine lv_goto (tgt := 10) hx hb dn_L_reset_4 (by decide) ?_
    refine lv_iconst (v := 0) hx hb dn_L_reset_10 (by decide) ?_
    rw [← Option.some.inj hf]
    exact xk_iret (w1 := fun _ : Unit => (wC a v cI cB cJ cZ cQ q.2 ++ ([(ho, .inl (cJ, 1, .inr (.inl o)))] : va_W))) () hx hb hr hlocks hK hS dn_L_reset_11 hP hD rfl (Nat.zero_le _) (Nat.zero_le _)
set_option maxHeartbeats 8000000 in
set_option maxRecDepth 100000 in
theorem hc_set (l : Launch) (hlt : l.stackTraces = false) (dC : Nat → ClassId) (dI : Nat → Nat → Nat) (cI cB cJ cZ cQ : ClassId) (N sz : Nat) (a : Nat → Nat) (v : Nat → Value) (ho : Nat) (v1 : Int32) (v2 : Int32) (s : ms) (o : Nat → Int64) (y : Int32 × ms × (Nat → Int64)) (hf : hp_set N v1 v2 s o = some y) : Met l yn_L_set (Cond.codeWith yn_L_set bn_L_set 4 (some .int) [(0, 6, 9, 25), (0, 6, 12, 35), (0, 6, 15, 19)] :: xw_G) ({ frames := 7, cells := 1, slots := 6, locals := 122 }) (dc_PX (dC, dI) xcl (xt cI cB cJ cZ cQ) [.ref ((a 100)), .int v1, .int v2] sz (wC a v cI cB cJ cZ cQ s ++ ([(ho, .inl (cJ, 1, .inr (.inl o)))] : va_W))) (xk_Qi (dC, dI) xcl (xt cI cB cJ cZ cQ) (fun (r : Int32) (_ : Unit) => r = y.1) (fun _ : Unit => (wC a v cI cB cJ cZ cQ y.2.1 ++ ([(ho, .inl (cJ, 1, .inr (.inl y.2.2)))] : va_W))) (va_A (wC a v cI cB cJ cZ cQ s ++ ([(ho, .inl (cJ, 1, .inr (.inl o)))] : va_W)) sz)) 1 6 (va_A (wC a v cI cB cJ cZ cQ s ++ ([(ho, .inl (cJ, 1, .inr (.inl o)))] : va_W)) sz) := by
  refine dc_ofH (QA := xk_Qi (dC, dI) xcl (xt cI cB cJ cZ cQ) (fun (r : Int32) (_ : Unit) => r = y.1) (fun _ : Unit => (wC a v cI cB cJ cZ cQ y.2.1 ++ ([(ho, .inl (cJ, 1, .inr (.inl y.2.2)))] : va_W)))) (by decide) (Nat.le_of_ble_eq_true rfl) ?_
  intro p e s0 m below meth c hx hb hml hown hg hr hlocks htab hno hst hP hK hN A hA hD hT ls hl
  have hown : s0.vm.findClass rn_L = some m.cls := hown
  have hl : lv_has ls 4 [(0, .ref ((a 100))), (1, .int v1), (2, .int v2)] := hl
  obtain ⟨H, hH⟩ : ∃ z, z = s0.heap := ⟨_, rfl⟩
  rw [← hH] at hP
  have hS : va_S A s0.heap H [] := by rw [hH]; exact va_S.rf
  suffices kk : W p l e ({ frames := 7, cells := 1, slots := 6, locals := 122 }) s0 m [.ref ((a 100)), .int v1, .int v2].toArray below meth c H [] 0 0 (MQ below (xk_Qi (dC, dI) xcl (xt cI cB cJ cZ cQ) (fun (r : Int32) (_ : Unit) => r = y.1) (fun _ : Unit => (wC a v cI cB cJ cZ cQ y.2.1 ++ ([(ho, .inl (cJ, 1, .inr (.inl y.2.2)))] : va_W))) A) [.ref ((a 100)), .int v1, .int v2].toArray s0 1 6 A) (F0 m 0 ls []) by rw [hH] at kk; exact kk
  unfold hp_set at hf
  refine lv_aload_n hx hb dn_L_set_0 rfl (lv_at hl 0 rfl) ?_
  refine lv_iload_n hx hb dn_L_set_1 rfl (lv_at hl 1 rfl) ?_
  refine lv_iload_n hx hb dn_L_set_2 rfl (lv_at hl 2 rfl) ?_
  cases htx : tx_C_set_C N v1 v2 s with
  | some k =>
    rw [htx] at hf
    have hf : (if k = 2 then some (1, s, o) else (if k = 3 then some (2, s, o) else (if k = 1 then some (3, s, o) else none))) = some y := hf
    by_cases hk0 : k = 2
    · subst hk0
      have hf := (if_pos rfl).symm.trans hf
      have hpre : ∀ r ∈ ([] : List (Nat × Nat × Nat × Nat)), r.1 ≤ 3 ∧ 3 < r.2.1 ∧ r.2.2.2 ≠ 0 ∧ ∃ nm : String, Cond.classLink rn_L r.2.2.2 nm ∈ xw_G ∧ ("java/lang/IllegalStateException", nm) ∈ xs_NL := by
        intro r hr
        cases hr
      refine dc_callX (cls := "java/lang/IllegalStateException") (pre := []) (ar := 2) (As := [.int v1, .int v2]) (rest := []) (ci := 1) (q0 := 0) ⟨hx, hb, hml, hown, hg⟩ hK hN (tc_C_set_C l hlt dC dI cI cB cJ cZ cQ N H.size a v v1 v2 s 2 htx) hP hS (va_P_l hP) (va_D_l hD) rfl rfl hno hst hH wn_7_210 wn_7_211 wn_7_212 wn_1_1 wn_7_213 rfl rfl (by decide +kernel) ⟨Nat.le_of_ble_eq_true rfl, Nat.le_of_ble_eq_true rfl⟩ rfl hl.1 rfl (Nat.le_of_ble_eq_true rfl) dn_L_set_3 ⟨Nat.le_of_ble_eq_true rfl, Nat.le_of_ble_eq_true rfl⟩ htab (by decide) (by decide) wn_7_123 (by decide +kernel) hpre (fun qx H hP hS => ?_)
      refine lv_astore_n (lv' := [(3, .ref qx), (0, .ref ((a 100))), (1, .int v1), (2, .int v2)]) hx hb dn_L_set_9 rfl hl (by decide) rfl (fun ls hl => ?_)
      refine lv_iconst (v := 1) hx hb dn_L_set_10 (by decide) ?_
      rw [← Option.some.inj hf]
      exact xk_iret (w1 := fun _ : Unit => (wC a v cI cB cJ cZ cQ s ++ ([(ho, .inl (cJ, 1, .inr (.inl o)))] : va_W))) () hx hb hr hlocks hK hS dn_L_set_11 hP hD rfl (Nat.le_refl _) (Nat.le_refl _)
    have hf := (if_neg hk0).symm.trans hf
    by_cases hk1 : k = 3
    · subst hk1
      have hf := (if_pos rfl).symm.trans hf
      have hpre : ∀ r ∈ ([(0, 6, 9, 25)] : List (Nat × Nat × Nat × Nat)), r.1 ≤ 3 ∧ 3 < r.2.1 ∧ r.2.2.2 ≠ 0 ∧ ∃ nm : String, Cond.classLink rn_L r.2.2.2 nm ∈ xw_G ∧ ("java/lang/IndexOutOfBoundsException", nm) ∈ xs_NL := by
        intro r hr
        rcases List.mem_cons.mp hr with rfl | hr
        · exact ⟨by decide, by decide, by decide, "java/lang/IllegalStateException", wn_7_123, by decide +kernel⟩
        cases hr
      refine dc_callX (cls := "java/lang/IndexOutOfBoundsException") (pre := [(0, 6, 9, 25)]) (ar := 2) (As := [.int v1, .int v2]) (rest := []) (ci := 1) (q0 := 0) ⟨hx, hb, hml, hown, hg⟩ hK hN (tc_C_set_C l hlt dC dI cI cB cJ cZ cQ N H.size a v v1 v2 s 3 htx) hP hS (va_P_l hP) (va_D_l hD) rfl rfl hno hst hH wn_7_210 wn_7_211 wn_7_212 wn_1_1 wn_7_213 rfl rfl (by decide +kernel) ⟨Nat.le_of_ble_eq_true rfl, Nat.le_of_ble_eq_true rfl⟩ rfl hl.1 rfl (Nat.le_of_ble_eq_true rfl) dn_L_set_3 ⟨Nat.le_of_ble_eq_true rfl, Nat.le_of_ble_eq_true rfl⟩ htab (by decide) (by decide) wn_7_172 (by decide +kernel) hpre (fun qx H hP hS => ?_)
      refine lv_astore_n (lv' := [(3, .ref qx), (0, .ref ((a 100))), (1, .int v1), (2, .int v2)]) hx hb dn_L_set_12 rfl hl (by decide) rfl (fun ls hl => ?_)
      refine lv_iconst (v := 2) hx hb dn_L_set_13 (by decide) ?_
      rw [← Option.some.inj hf]
      exact xk_iret (w1 := fun _ : Unit => (wC a v cI cB cJ cZ cQ s ++ ([(ho, .inl (cJ, 1, .inr (.inl o)))] : va_W))) () hx hb hr hlocks hK hS dn_L_set_14 hP hD rfl (Nat.le_refl _) (Nat.le_refl _)
    have hf := (if_neg hk1).symm.trans hf
    by_cases hk2 : k = 1
    · subst hk2
      have hf := (if_pos rfl).symm.trans hf
      have hpre : ∀ r ∈ ([(0, 6, 9, 25), (0, 6, 12, 35)] : List (Nat × Nat × Nat × Nat)), r.1 ≤ 3 ∧ 3 < r.2.1 ∧ r.2.2.2 ≠ 0 ∧ ∃ nm : String, Cond.classLink rn_L r.2.2.2 nm ∈ xw_G ∧ ("java/lang/IllegalArgumentException", nm) ∈ xs_NL := by
        intro r hr
        rcases List.mem_cons.mp hr with rfl | hr
        · exact ⟨by decide, by decide, by decide, "java/lang/IllegalStateException", wn_7_123, by decide +kernel⟩
        rcases List.mem_cons.mp hr with rfl | hr
        · exact ⟨by decide, by decide, by decide, "java/lang/IndexOutOfBoundsException", wn_7_172, by decide +kernel⟩
        cases hr
      refine dc_callX (cls := "java/lang/IllegalArgumentException") (pre := [(0, 6, 9, 25), (0, 6, 12, 35)]) (ar := 2) (As := [.int v1, .int v2]) (rest := []) (ci := 1) (q0 := 0) ⟨hx, hb, hml, hown, hg⟩ hK hN (tc_C_set_C l hlt dC dI cI cB cJ cZ cQ N H.size a v v1 v2 s 1 htx) hP hS (va_P_l hP) (va_D_l hD) rfl rfl hno hst hH wn_7_210 wn_7_211 wn_7_212 wn_1_1 wn_7_213 rfl rfl (by decide +kernel) ⟨Nat.le_of_ble_eq_true rfl, Nat.le_of_ble_eq_true rfl⟩ rfl hl.1 rfl (Nat.le_of_ble_eq_true rfl) dn_L_set_3 ⟨Nat.le_of_ble_eq_true rfl, Nat.le_of_ble_eq_true rfl⟩ htab (by decide) (by decide) wn_7_100 (by decide +kernel) hpre (fun qx H hP hS => ?_)
      refine lv_astore_n (lv' := [(3, .ref qx), (0, .ref ((a 100))), (1, .int v1), (2, .int v2)]) hx hb dn_L_set_15 rfl hl (by decide) rfl (fun ls hl => ?_)
      refine lv_iconst (v := 3) hx hb dn_L_set_16 (by decide) ?_
      rw [← Option.some.inj hf]
      exact xk_iret (w1 := fun _ : Unit => (wC a v cI cB cJ cZ cQ s ++ ([(ho, .inl (cJ, 1, .inr (.inl o)))] : va_W))) () hx hb hr hlocks hK hS dn_L_set_17 hP hD rfl (Nat.le_refl _) (Nat.le_refl _)
    have hf := (if_neg hk2).symm.trans hf
    cases hf
  | none =>
    rw [htx] at hf
    obtain ⟨q, hc, hf⟩ := dc_b hf
    refine dc_callvA (dc_runV (ar := 2) (As := [.int v1, .int v2]) (rest := []) (ci := 1) (q0 := 0) ⟨hx, hb, hml, hown, hg⟩ hK hN hT hS hA (ct_C_set_C l dC dI cI cB cJ cZ cQ N H.size a v v1 v2 s q hc) (va_P_l hP) (va_D_l hD) rfl rfl wn_7_210 wn_7_211 wn_7_212 wn_1_1 wn_7_213 rfl rfl (by decide +kernel) ⟨Nat.le_of_ble_eq_true rfl, Nat.le_of_ble_eq_true rfl⟩ rfl hl.1 rfl (Nat.le_of_ble_eq_true rfl) dn_L_set_3 ⟨Nat.le_of_ble_eq_true rfl, Nat.le_of_ble_eq_true rfl⟩) hP hD hS hA (fun _ H locs hw hP hD hS => ?_)
    refine lv_goto (tgt := 18) hx hb dn_L_set_6 (by decide) ?_
    refine lv_iconst (v := 0) hx hb dn_L_set_18 (by decide) ?_
    rw [← Option.some.inj hf]
    exact xk_iret (w1 := fun _ : Unit => (wC a v cI cB cJ cZ cQ q.2 ++ ([(ho, .inl (cJ, 1, .inr (.inl o)))] : va_W))) () hx hb hr hlocks hK hS dn_L_set_19 hP hD rfl (Nat.zero_le _) (Nat.zero_le _)
set_option maxHeartbeats 8000000 in
set_option maxRecDepth 100000 in
theorem hc_step (l : Launch) (hlt : l.stackTraces = false) (dC : Nat → ClassId) (dI : Nat → Nat → Nat) (cI cB cJ cZ cQ : ClassId) (N sz : Nat) (a : Nat → Nat) (v : Nat → Value) (ho : Nat) (s : ms) (o : Nat → Int64) (y : Int32 × ms × (Nat → Int64)) (hf : hp_step N s o = some y) : Met l yn_L_step (Cond.codeWith yn_L_step bn_L_step 3 (some .int) [(0, 8, 11, 25)] :: xw_G) ({ frames := 7, cells := 1, slots := 6, locals := 150 }) (dc_PX (dC, dI) xcl (xt cI cB cJ cZ cQ) [.ref ((a 100)), .ref ho] sz (wC a v cI cB cJ cZ cQ s ++ ([(ho, .inl (cJ, 1, .inr (.inl o)))] : va_W))) (xk_Qi (dC, dI) xcl (xt cI cB cJ cZ cQ) (fun (r : Int32) (_ : Unit) => r = y.1) (fun _ : Unit => (wC a v cI cB cJ cZ cQ y.2.1 ++ ([(ho, .inl (cJ, 1, .inr (.inl y.2.2)))] : va_W))) (va_A (wC a v cI cB cJ cZ cQ s ++ ([(ho, .inl (cJ, 1, .inr (.inl o)))] : va_W)) sz)) 1 6 (va_A (wC a v cI cB cJ cZ cQ s ++ ([(ho, .inl (cJ, 1, .inr (.inl o)))] : va_W)) sz) := by
  refine dc_ofH (QA := xk_Qi (dC, dI) xcl (xt cI cB cJ cZ cQ) (fun (r : Int32) (_ : Unit) => r = y.1) (fun _ : Unit => (wC a v cI cB cJ cZ cQ y.2.1 ++ ([(ho, .inl (cJ, 1, .inr (.inl y.2.2)))] : va_W)))) (by decide) (Nat.le_of_ble_eq_true rfl) ?_
  intro p e s0 m below meth c hx hb hml hown hg hr hlocks htab hno hst hP hK hN A hA hD hT ls hl
  have hown : s0.vm.findClass rn_L = some m.cls := hown
  have hl : lv_has ls 3 [(0, .ref ((a 100))), (1, .ref ho)] := hl
  obtain ⟨H, hH⟩ : ∃ z, z = s0.heap := ⟨_, rfl⟩
  rw [← hH] at hP
  have hS : va_S A s0.heap H [] := by rw [hH]; exact va_S.rf
  suffices kk : W p l e ({ frames := 7, cells := 1, slots := 6, locals := 150 }) s0 m [.ref ((a 100)), .ref ho].toArray below meth c H [] 0 0 (MQ below (xk_Qi (dC, dI) xcl (xt cI cB cJ cZ cQ) (fun (r : Int32) (_ : Unit) => r = y.1) (fun _ : Unit => (wC a v cI cB cJ cZ cQ y.2.1 ++ ([(ho, .inl (cJ, 1, .inr (.inl y.2.2)))] : va_W))) A) [.ref ((a 100)), .ref ho].toArray s0 1 6 A) (F0 m 0 ls []) by rw [hH] at kk; exact kk
  unfold hp_step at hf
  refine lv_aload_n hx hb dn_L_step_0 rfl (lv_at hl 1 rfl) ?_
  refine lv_iconst (v := 0) hx hb dn_L_step_1 (by decide) ?_
  refine lv_aload_n hx hb dn_L_step_2 rfl (lv_at hl 0 rfl) ?_
  cases htx : tx_C_step_C N s with
  | some k =>
    rw [htx] at hf
    have hf : (if k = 2 then some (1, s, o) else none) = some y := hf
    by_cases hk0 : k = 2
    · subst hk0
      have hf := (if_pos rfl).symm.trans hf
      have hpre : ∀ r ∈ ([] : List (Nat × Nat × Nat × Nat)), r.1 ≤ 3 ∧ 3 < r.2.1 ∧ r.2.2.2 ≠ 0 ∧ ∃ nm : String, Cond.classLink rn_L r.2.2.2 nm ∈ xw_G ∧ ("java/lang/IllegalStateException", nm) ∈ xs_NL := by
        intro r hr
        cases hr
      refine dc_callX (cls := "java/lang/IllegalStateException") (pre := []) (ar := 0) (As := []) (rest := [.int 0, .ref ho]) (ci := 1) (q0 := 0) ⟨hx, hb, hml, hown, hg⟩ hK hN (tc_C_step_C l hlt dC dI cI cB cJ cZ cQ N H.size a v s 2 htx) hP hS (va_P_l hP) (va_D_l hD) rfl rfl hno hst hH wn_7_222 wn_7_223 wn_7_224 wn_1_1 wn_7_225 rfl rfl (by decide +kernel) ⟨Nat.le_of_ble_eq_true rfl, Nat.le_of_ble_eq_true rfl⟩ rfl hl.1 rfl (Nat.le_of_ble_eq_true rfl) dn_L_step_3 ⟨Nat.le_of_ble_eq_true rfl, Nat.le_of_ble_eq_true rfl⟩ htab (by decide) (by decide) wn_7_123 (by decide +kernel) hpre (fun qx H hP hS => ?_)
      refine lv_astore_n (lv' := [(2, .ref qx), (0, .ref ((a 100))), (1, .ref ho)]) hx hb dn_L_step_11 rfl hl (by decide) rfl (fun ls hl => ?_)
      refine lv_iconst (v := 1) hx hb dn_L_step_12 (by decide) ?_
      rw [← Option.some.inj hf]
      exact xk_iret (w1 := fun _ : Unit => (wC a v cI cB cJ cZ cQ s ++ ([(ho, .inl (cJ, 1, .inr (.inl o)))] : va_W))) () hx hb hr hlocks hK hS dn_L_step_13 hP hD rfl (Nat.le_refl _) (Nat.le_refl _)
    have hf := (if_neg hk0).symm.trans hf
    cases hf
  | none =>
    rw [htx] at hf
    obtain ⟨q, hc, hf⟩ := dc_b hf
    refine dc_calliA (dc_runV (ar := 0) (As := []) (rest := [.int 0, .ref ho]) (ci := 1) (q0 := 0) ⟨hx, hb, hml, hown, hg⟩ hK hN hT hS hA (ct_C_step_C l dC dI cI cB cJ cZ cQ N H.size a v s q hc) (va_P_l hP) (va_D_l hD) rfl rfl wn_7_222 wn_7_223 wn_7_224 wn_1_1 wn_7_225 rfl rfl (by decide +kernel) ⟨Nat.le_of_ble_eq_true rfl, Nat.le_of_ble_eq_true rfl⟩ rfl hl.1 rfl (Nat.le_of_ble_eq_true rfl) dn_L_step_3 ⟨Nat.le_of_ble_eq_true rfl, Nat.le_of_ble_eq_true rfl⟩) hP hD hS hA (fun r _ H locs hw hP hD hS => ?_)
    have hw : r = q.1 := hw
    subst hw
    refine lv_i2l (v := Int32.toInt64 q.1) hx hb dn_L_step_6 rfl ?_
    refine va_last hx hb hK hP hD hS 122 2 rfl rfl (show ¬ (_ ∨ _) by decide) dn_L_step_7 (fun H locs hP hD hS => ?_)
    have hP : va_P (dC, dI) xcl (wC a v cI cB cJ cZ cQ q.2 ++ ([(ho, .inl (cJ, 1, .inr (.inl (vp_updL o 0 (Int32.toInt64 q.1)))))] : va_W)) H := hP
    have hD : va_D A (wC a v cI cB cJ cZ cQ q.2 ++ ([(ho, .inl (cJ, 1, .inr (.inl (vp_updL o 0 (Int32.toInt64 q.1)))))] : va_W)) := hD
    refine lv_goto (tgt := 14) hx hb dn_L_step_8 (by decide) ?_
    refine lv_iconst (v := 0) hx hb dn_L_step_14 (by decide) ?_
    rw [← Option.some.inj hf]
    exact xk_iret (w1 := fun _ : Unit => (wC a v cI cB cJ cZ cQ q.2 ++ ([(ho, .inl (cJ, 1, .inr (.inl (vp_updL o 0 (Int32.toInt64 q.1)))))] : va_W))) () hx hb hr hlocks hK hS dn_L_step_15 hP hD rfl (Nat.zero_le _) (Nat.zero_le _)
set_option maxHeartbeats 8000000 in
set_option maxRecDepth 100000 in
theorem hc_value (l : Launch) (hlt : l.stackTraces = false) (dC : Nat → ClassId) (dI : Nat → Nat → Nat) (cI cB cJ cZ cQ : ClassId) (N sz : Nat) (a : Nat → Nat) (v : Nat → Value) (ho : Nat) (v1 : Int32) (s : ms) (o : Nat → Int64) (y : Int32 × ms × (Nat → Int64)) (hf : hp_value N v1 s o = some y) : Met l yn_L_value (Cond.codeWith yn_L_value bn_L_value 4 (some .int) [(0, 8, 11, 25), (0, 8, 14, 35)] :: xw_G) ({ frames := 7, cells := 1, slots := 6, locals := 148 }) (dc_PX (dC, dI) xcl (xt cI cB cJ cZ cQ) [.ref ((a 100)), .int v1, .ref ho] sz (wC a v cI cB cJ cZ cQ s ++ ([(ho, .inl (cJ, 1, .inr (.inl o)))] : va_W))) (xk_Qi (dC, dI) xcl (xt cI cB cJ cZ cQ) (fun (r : Int32) (_ : Unit) => r = y.1) (fun _ : Unit => (wC a v cI cB cJ cZ cQ y.2.1 ++ ([(ho, .inl (cJ, 1, .inr (.inl y.2.2)))] : va_W))) (va_A (wC a v cI cB cJ cZ cQ s ++ ([(ho, .inl (cJ, 1, .inr (.inl o)))] : va_W)) sz)) 1 6 (va_A (wC a v cI cB cJ cZ cQ s ++ ([(ho, .inl (cJ, 1, .inr (.inl o)))] : va_W)) sz) := by
  refine dc_ofH (QA := xk_Qi (dC, dI) xcl (xt cI cB cJ cZ cQ) (fun (r : Int32) (_ : Unit) => r = y.1) (fun _ : Unit => (wC a v cI cB cJ cZ cQ y.2.1 ++ ([(ho, .inl (cJ, 1, .inr (.inl y.2.2)))] : va_W)))) (by decide) (Nat.le_of_ble_eq_true rfl) ?_
  intro p e s0 m below meth c hx hb hml hown hg hr hlocks htab hno hst hP hK hN A hA hD hT ls hl
  have hown : s0.vm.findClass rn_L = some m.cls := hown
  have hl : lv_has ls 4 [(0, .ref ((a 100))), (1, .int v1), (2, .ref ho)] := hl
  obtain ⟨H, hH⟩ : ∃ z, z = s0.heap := ⟨_, rfl⟩
  rw [← hH] at hP
  have hS : va_S A s0.heap H [] := by rw [hH]; exact va_S.rf
  suffices kk : W p l e ({ frames := 7, cells := 1, slots := 6, locals := 148 }) s0 m [.ref ((a 100)), .int v1, .ref ho].toArray below meth c H [] 0 0 (MQ below (xk_Qi (dC, dI) xcl (xt cI cB cJ cZ cQ) (fun (r : Int32) (_ : Unit) => r = y.1) (fun _ : Unit => (wC a v cI cB cJ cZ cQ y.2.1 ++ ([(ho, .inl (cJ, 1, .inr (.inl y.2.2)))] : va_W))) A) [.ref ((a 100)), .int v1, .ref ho].toArray s0 1 6 A) (F0 m 0 ls []) by rw [hH] at kk; exact kk
  unfold hp_value at hf
  refine lv_aload_n hx hb dn_L_value_0 rfl (lv_at hl 2 rfl) ?_
  refine lv_iconst (v := 0) hx hb dn_L_value_1 (by decide) ?_
  refine lv_aload_n hx hb dn_L_value_2 rfl (lv_at hl 0 rfl) ?_
  refine lv_iload_n hx hb dn_L_value_3 rfl (lv_at hl 1 rfl) ?_
  cases htx : tx_C_value_C N v1 s with
  | some k =>
    rw [htx] at hf
    have hf : (if k = 2 then some (1, s, o) else (if k = 3 then some (2, s, o) else none)) = some y := hf
    by_cases hk0 : k = 2
    · subst hk0
      have hf := (if_pos rfl).symm.trans hf
      have hpre : ∀ r ∈ ([] : List (Nat × Nat × Nat × Nat)), r.1 ≤ 4 ∧ 4 < r.2.1 ∧ r.2.2.2 ≠ 0 ∧ ∃ nm : String, Cond.classLink rn_L r.2.2.2 nm ∈ xw_G ∧ ("java/lang/IllegalStateException", nm) ∈ xs_NL := by
        intro r hr
        cases hr
      refine dc_callX (cls := "java/lang/IllegalStateException") (pre := []) (ar := 1) (As := [.int v1]) (rest := [.int 0, .ref ho]) (ci := 1) (q0 := 0) ⟨hx, hb, hml, hown, hg⟩ hK hN (tc_C_value_C l hlt dC dI cI cB cJ cZ cQ N H.size a v v1 s 2 htx) hP hS (va_P_l hP) (va_D_l hD) rfl rfl hno hst hH wn_8_46 wn_8_47 wn_8_48 wn_1_1 wn_8_49 rfl rfl (by decide +kernel) ⟨Nat.le_of_ble_eq_true rfl, Nat.le_of_ble_eq_true rfl⟩ rfl hl.1 rfl (Nat.le_of_ble_eq_true rfl) dn_L_value_4 ⟨Nat.le_of_ble_eq_true rfl, Nat.le_of_ble_eq_true rfl⟩ htab (by decide) (by decide) wn_7_123 (by decide +kernel) hpre (fun qx H hP hS => ?_)
      refine lv_astore_n (lv' := [(3, .ref qx), (0, .ref ((a 100))), (1, .int v1), (2, .ref ho)]) hx hb dn_L_value_11 rfl hl (by decide) rfl (fun ls hl => ?_)
      refine lv_iconst (v := 1) hx hb dn_L_value_12 (by decide) ?_
      rw [← Option.some.inj hf]
      exact xk_iret (w1 := fun _ : Unit => (wC a v cI cB cJ cZ cQ s ++ ([(ho, .inl (cJ, 1, .inr (.inl o)))] : va_W))) () hx hb hr hlocks hK hS dn_L_value_13 hP hD rfl (Nat.le_refl _) (Nat.le_refl _)
    have hf := (if_neg hk0).symm.trans hf
    by_cases hk1 : k = 3
    · subst hk1
      have hf := (if_pos rfl).symm.trans hf
      have hpre : ∀ r ∈ ([(0, 8, 11, 25)] : List (Nat × Nat × Nat × Nat)), r.1 ≤ 4 ∧ 4 < r.2.1 ∧ r.2.2.2 ≠ 0 ∧ ∃ nm : String, Cond.classLink rn_L r.2.2.2 nm ∈ xw_G ∧ ("java/lang/IndexOutOfBoundsException", nm) ∈ xs_NL := by
        intro r hr
        rcases List.mem_cons.mp hr with rfl | hr
        · exact ⟨by decide, by decide, by decide, "java/lang/IllegalStateException", wn_7_123, by decide +kernel⟩
        cases hr
      refine dc_callX (cls := "java/lang/IndexOutOfBoundsException") (pre := [(0, 8, 11, 25)]) (ar := 1) (As := [.int v1]) (rest := [.int 0, .ref ho]) (ci := 1) (q0 := 0) ⟨hx, hb, hml, hown, hg⟩ hK hN (tc_C_value_C l hlt dC dI cI cB cJ cZ cQ N H.size a v v1 s 3 htx) hP hS (va_P_l hP) (va_D_l hD) rfl rfl hno hst hH wn_8_46 wn_8_47 wn_8_48 wn_1_1 wn_8_49 rfl rfl (by decide +kernel) ⟨Nat.le_of_ble_eq_true rfl, Nat.le_of_ble_eq_true rfl⟩ rfl hl.1 rfl (Nat.le_of_ble_eq_true rfl) dn_L_value_4 ⟨Nat.le_of_ble_eq_true rfl, Nat.le_of_ble_eq_true rfl⟩ htab (by decide) (by decide) wn_7_172 (by decide +kernel) hpre (fun qx H hP hS => ?_)
      refine lv_astore_n (lv' := [(3, .ref qx), (0, .ref ((a 100))), (1, .int v1), (2, .ref ho)]) hx hb dn_L_value_14 rfl hl (by decide) rfl (fun ls hl => ?_)
      refine lv_iconst (v := 2) hx hb dn_L_value_15 (by decide) ?_
      rw [← Option.some.inj hf]
      exact xk_iret (w1 := fun _ : Unit => (wC a v cI cB cJ cZ cQ s ++ ([(ho, .inl (cJ, 1, .inr (.inl o)))] : va_W))) () hx hb hr hlocks hK hS dn_L_value_16 hP hD rfl (Nat.le_refl _) (Nat.le_refl _)
    have hf := (if_neg hk1).symm.trans hf
    cases hf
  | none =>
    rw [htx] at hf
    obtain ⟨q, hc, hf⟩ := dc_b hf
    refine dc_calllA (dc_runV (ar := 1) (As := [.int v1]) (rest := [.int 0, .ref ho]) (ci := 1) (q0 := 0) ⟨hx, hb, hml, hown, hg⟩ hK hN hT hS hA (ct_C_value_C l dC dI cI cB cJ cZ cQ N H.size a v v1 s q hc) (va_P_l hP) (va_D_l hD) rfl rfl wn_8_46 wn_8_47 wn_8_48 wn_1_1 wn_8_49 rfl rfl (by decide +kernel) ⟨Nat.le_of_ble_eq_true rfl, Nat.le_of_ble_eq_true rfl⟩ rfl hl.1 rfl (Nat.le_of_ble_eq_true rfl) dn_L_value_4 ⟨Nat.le_of_ble_eq_true rfl, Nat.le_of_ble_eq_true rfl⟩) hP hD hS hA (fun r _ H locs hw hP hD hS => ?_)
    have hw : r = q.1 := hw
    subst hw
    refine va_last hx hb hK hP hD hS 122 2 rfl rfl (show ¬ (_ ∨ _) by decide) dn_L_value_7 (fun H locs hP hD hS => ?_)
    have hP : va_P (dC, dI) xcl (wC a v cI cB cJ cZ cQ q.2 ++ ([(ho, .inl (cJ, 1, .inr (.inl (vp_updL o 0 q.1))))] : va_W)) H := hP
    have hD : va_D A (wC a v cI cB cJ cZ cQ q.2 ++ ([(ho, .inl (cJ, 1, .inr (.inl (vp_updL o 0 q.1))))] : va_W)) := hD
    refine lv_goto (tgt := 17) hx hb dn_L_value_8 (by decide) ?_
    refine lv_iconst (v := 0) hx hb dn_L_value_17 (by decide) ?_
    rw [← Option.some.inj hf]
    exact xk_iret (w1 := fun _ : Unit => (wC a v cI cB cJ cZ cQ q.2 ++ ([(ho, .inl (cJ, 1, .inr (.inl (vp_updL o 0 q.1))))] : va_W))) () hx hb hr hlocks hK hS dn_L_value_18 hP hD rfl (Nat.zero_le _) (Nat.zero_le _)
set_option maxHeartbeats 8000000 in
set_option maxRecDepth 100000 in
theorem hc_failing (l : Launch) (hlt : l.stackTraces = false) (dC : Nat → ClassId) (dI : Nat → Nat → Nat) (cI cB cJ cZ cQ : ClassId) (N sz : Nat) (a : Nat → Nat) (v : Nat → Value) (ho : Nat) (s : ms) (o : Nat → Int64) (y : Int32 × ms × (Nat → Int64)) (hf : hp_failing N s o = some y) : Met l yn_L_failing (Cond.codeWith yn_L_failing bn_L_failing 3 (some .int) [(0, 8, 11, 25)] :: xw_G) ({ frames := 7, cells := 1, slots := 6, locals := 150 }) (dc_PX (dC, dI) xcl (xt cI cB cJ cZ cQ) [.ref ((a 100)), .ref ho] sz (wC a v cI cB cJ cZ cQ s ++ ([(ho, .inl (cJ, 1, .inr (.inl o)))] : va_W))) (xk_Qi (dC, dI) xcl (xt cI cB cJ cZ cQ) (fun (r : Int32) (_ : Unit) => r = y.1) (fun _ : Unit => (wC a v cI cB cJ cZ cQ y.2.1 ++ ([(ho, .inl (cJ, 1, .inr (.inl y.2.2)))] : va_W))) (va_A (wC a v cI cB cJ cZ cQ s ++ ([(ho, .inl (cJ, 1, .inr (.inl o)))] : va_W)) sz)) 1 6 (va_A (wC a v cI cB cJ cZ cQ s ++ ([(ho, .inl (cJ, 1, .inr (.inl o)))] : va_W)) sz) := by
  refine dc_ofH (QA := xk_Qi (dC, dI) xcl (xt cI cB cJ cZ cQ) (fun (r : Int32) (_ : Unit) => r = y.1) (fun _ : Unit => (wC a v cI cB cJ cZ cQ y.2.1 ++ ([(ho, .inl (cJ, 1, .inr (.inl y.2.2)))] : va_W)))) (by decide) (Nat.le_of_ble_eq_true rfl) ?_
  intro p e s0 m below meth c hx hb hml hown hg hr hlocks htab hno hst hP hK hN A hA hD hT ls hl
  have hown : s0.vm.findClass rn_L = some m.cls := hown
  have hl : lv_has ls 3 [(0, .ref ((a 100))), (1, .ref ho)] := hl
  obtain ⟨H, hH⟩ : ∃ z, z = s0.heap := ⟨_, rfl⟩
  rw [← hH] at hP
  have hS : va_S A s0.heap H [] := by rw [hH]; exact va_S.rf
  suffices kk : W p l e ({ frames := 7, cells := 1, slots := 6, locals := 150 }) s0 m [.ref ((a 100)), .ref ho].toArray below meth c H [] 0 0 (MQ below (xk_Qi (dC, dI) xcl (xt cI cB cJ cZ cQ) (fun (r : Int32) (_ : Unit) => r = y.1) (fun _ : Unit => (wC a v cI cB cJ cZ cQ y.2.1 ++ ([(ho, .inl (cJ, 1, .inr (.inl y.2.2)))] : va_W))) A) [.ref ((a 100)), .ref ho].toArray s0 1 6 A) (F0 m 0 ls []) by rw [hH] at kk; exact kk
  unfold hp_failing at hf
  refine lv_aload_n hx hb dn_L_failing_0 rfl (lv_at hl 1 rfl) ?_
  refine lv_iconst (v := 0) hx hb dn_L_failing_1 (by decide) ?_
  refine lv_aload_n hx hb dn_L_failing_2 rfl (lv_at hl 0 rfl) ?_
  cases htx : tx_C_failing_C N s with
  | some k =>
    rw [htx] at hf
    have hf : (if k = 2 then some (1, s, o) else none) = some y := hf
    by_cases hk0 : k = 2
    · subst hk0
      have hf := (if_pos rfl).symm.trans hf
      have hpre : ∀ r ∈ ([] : List (Nat × Nat × Nat × Nat)), r.1 ≤ 3 ∧ 3 < r.2.1 ∧ r.2.2.2 ≠ 0 ∧ ∃ nm : String, Cond.classLink rn_L r.2.2.2 nm ∈ xw_G ∧ ("java/lang/IllegalStateException", nm) ∈ xs_NL := by
        intro r hr
        cases hr
      refine dc_callX (cls := "java/lang/IllegalStateException") (pre := []) (ar := 0) (As := []) (rest := [.int 0, .ref ho]) (ci := 1) (q0 := 0) ⟨hx, hb, hml, hown, hg⟩ hK hN (tc_C_failing_C l hlt dC dI cI cB cJ cZ cQ N H.size a v s 2 htx) hP hS (va_P_l hP) (va_D_l hD) rfl rfl hno hst hH wn_8_57 wn_8_58 wn_8_59 wn_1_1 wn_8_60 rfl rfl (by decide +kernel) ⟨Nat.le_of_ble_eq_true rfl, Nat.le_of_ble_eq_true rfl⟩ rfl hl.1 rfl (Nat.le_of_ble_eq_true rfl) dn_L_failing_3 ⟨Nat.le_of_ble_eq_true rfl, Nat.le_of_ble_eq_true rfl⟩ htab (by decide) (by decide) wn_7_123 (by decide +kernel) hpre (fun qx H hP hS => ?_)
      refine lv_astore_n (lv' := [(2, .ref qx), (0, .ref ((a 100))), (1, .ref ho)]) hx hb dn_L_failing_11 rfl hl (by decide) rfl (fun ls hl => ?_)
      refine lv_iconst (v := 1) hx hb dn_L_failing_12 (by decide) ?_
      rw [← Option.some.inj hf]
      exact xk_iret (w1 := fun _ : Unit => (wC a v cI cB cJ cZ cQ s ++ ([(ho, .inl (cJ, 1, .inr (.inl o)))] : va_W))) () hx hb hr hlocks hK hS dn_L_failing_13 hP hD rfl (Nat.le_refl _) (Nat.le_refl _)
    have hf := (if_neg hk0).symm.trans hf
    cases hf
  | none =>
    rw [htx] at hf
    obtain ⟨q, hc, hf⟩ := dc_b hf
    refine dc_calliA (dc_runV (ar := 0) (As := []) (rest := [.int 0, .ref ho]) (ci := 1) (q0 := 0) ⟨hx, hb, hml, hown, hg⟩ hK hN hT hS hA (ct_C_failing_C l dC dI cI cB cJ cZ cQ N H.size a v s q hc) (va_P_l hP) (va_D_l hD) rfl rfl wn_8_57 wn_8_58 wn_8_59 wn_1_1 wn_8_60 rfl rfl (by decide +kernel) ⟨Nat.le_of_ble_eq_true rfl, Nat.le_of_ble_eq_true rfl⟩ rfl hl.1 rfl (Nat.le_of_ble_eq_true rfl) dn_L_failing_3 ⟨Nat.le_of_ble_eq_true rfl, Nat.le_of_ble_eq_true rfl⟩) hP hD hS hA (fun r _ H locs hw hP hD hS => ?_)
    have hw : r = q.1 := hw
    subst hw
    refine lv_i2l (v := Int32.toInt64 q.1) hx hb dn_L_failing_6 rfl ?_
    refine va_last hx hb hK hP hD hS 122 2 rfl rfl (show ¬ (_ ∨ _) by decide) dn_L_failing_7 (fun H locs hP hD hS => ?_)
    have hP : va_P (dC, dI) xcl (wC a v cI cB cJ cZ cQ q.2 ++ ([(ho, .inl (cJ, 1, .inr (.inl (vp_updL o 0 (Int32.toInt64 q.1)))))] : va_W)) H := hP
    have hD : va_D A (wC a v cI cB cJ cZ cQ q.2 ++ ([(ho, .inl (cJ, 1, .inr (.inl (vp_updL o 0 (Int32.toInt64 q.1)))))] : va_W)) := hD
    refine lv_goto (tgt := 14) hx hb dn_L_failing_8 (by decide) ?_
    refine lv_iconst (v := 0) hx hb dn_L_failing_14 (by decide) ?_
    rw [← Option.some.inj hf]
    exact xk_iret (w1 := fun _ : Unit => (wC a v cI cB cJ cZ cQ q.2 ++ ([(ho, .inl (cJ, 1, .inr (.inl (vp_updL o 0 (Int32.toInt64 q.1)))))] : va_W))) () hx hb hr hlocks hK hS dn_L_failing_15 hP hD rfl (Nat.zero_le _) (Nat.zero_le _)
