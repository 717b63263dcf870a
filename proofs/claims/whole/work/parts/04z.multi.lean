/-! An array of N rows of M ints: 'multianewarray' of two dimensions. -/
/-- the row of rows when i of its rows are made -/
def xq_top (cA : ClassId) (N a i : Nat) : Cell := { cls := cA, slots := Array.ofFn (n := N) (fun j => if j.val < i then Value.ref (a + 1 + j.val) else Value.null), vm := .none }
abbrev xq_row (cI : ClassId) (M : Nat) : Cell := { cls := cI, slots := Array.replicate M (.int 0), vm := .none }
def xq_s (T : State) (cA cI : ClassId) (N M : Nat) : Nat → State
  | 0 => T.pushCell (xq_top cA N T.heap.size 0)
  | i + 1 => ((xq_s T cA cI N M i).pushCell (xq_row cI M)).setCell T.heap.size (xq_top cA N T.heap.size (i + 1))
theorem xq_top0 (cA : ClassId) (N a : Nat) : xq_top cA N a 0 = { cls := cA, slots := Array.replicate N .null, vm := .none } := by
  simp only [xq_top, Cell.mk.injEq, true_and, and_true]
  apply Array.ext <;> simp
theorem xq_topS (cA : ClassId) (N a i : Nat) : (xq_top cA N a i).setSlot i (.ref (a + 1 + i)) = xq_top cA N a (i + 1) := by
  simp only [xq_top, Cell.setSlot, Cell.mk.injEq, true_and, and_true]
  apply Array.ext
  · simp
  · intro j h1 h2
    simp only [Array.size_setIfInBounds, Array.size_ofFn] at h1
    rw [Array.getElem_setIfInBounds (by simpa using h1)]
    simp only [Array.getElem_ofFn]
    by_cases e : i = j
    · subst e; simp
    · have : (j < i + 1) ↔ (j < i) := by omega
      simp [e, this]
theorem xq_facts (T : State) (cA cI : ClassId) (N M : Nat) : ∀ i : Nat, (xq_s T cA cI N M i).heap.size = T.heap.size + 1 + i ∧ (xq_s T cA cI N M i).heap[T.heap.size]? = some (xq_top cA N T.heap.size i) ∧ (xq_s T cA cI N M i).vm = T.vm ∧ (xq_s T cA cI N M i).slotsUsed = T.slotsUsed + N + i * M ∧
    (∀ x : Nat, x < T.heap.size → (xq_s T cA cI N M i).heap[x]? = T.heap[x]?) ∧ ∀ j : Nat, j < i → (xq_s T cA cI N M i).heap[T.heap.size + 1 + j]? = some (xq_row cI M) := by
  intro i
  induction i with
  | zero =>
    refine ⟨by simp [xq_s], by simp [xq_s], rfl, by simp [xq_s, xq_top], fun x hx => State.heap_pushCell_of_lt _ _ hx, fun j h => absurd h (Nat.not_lt_zero _)⟩
  | succ i ih =>
    obtain ⟨h1, h2, h3, h4, h5, h6⟩ := ih
    have hlt : T.heap.size < (xq_s T cA cI N M i).heap.size := by omega
    have hc : ((xq_s T cA cI N M i).pushCell (xq_row cI M)).heap[T.heap.size]? = some (xq_top cA N T.heap.size i) := by rw [State.heap_pushCell_of_lt (h := hlt)]; exact h2
    refine ⟨?_, State.heap_setCell_self hc, ?_, ?_, fun x hx => ?_, fun j hj => ?_⟩
    · simp only [xq_s, State.setCell, State.pushCell, Array.size_setIfInBounds, Array.size_push, h1]; omega
    · simp only [xq_s]; exact h3
    · have : (xq_s T cA cI N M (i + 1)).slotsUsed = (xq_s T cA cI N M i).slotsUsed + M := by simp [xq_s]
      rw [this, h4, Nat.succ_mul]; omega
    · show (((xq_s T cA cI N M i).pushCell (xq_row cI M)).setCell T.heap.size _).heap[x]? = _
      have hx2 : x < (xq_s T cA cI N M i).heap.size := by omega
      rw [State.heap_setCell_other (Nat.ne_of_gt hx), State.heap_pushCell_of_lt (h := hx2)]
      exact h5 x hx
    · show (((xq_s T cA cI N M i).pushCell (xq_row cI M)).setCell T.heap.size _).heap[T.heap.size + 1 + j]? = _
      rw [State.heap_setCell_other (show T.heap.size ≠ T.heap.size + 1 + j by omega)]
      by_cases e : j = i
      · subst e
        rw [← h1]
        exact State.heap_pushCell_size _ _
      · have hj2 : T.heap.size + 1 + j < (xq_s T cA cI N M i).heap.size := by omega
        rw [State.heap_pushCell_of_lt (h := hj2)]
        exact h6 j (by omega)
theorem xq_setTop (T : State) (f : JFrame) (cA cI : ClassId) (N M : Nat) : ∀ i, xq_s (T.setTop f) cA cI N M i = (xq_s T cA cI N M i).setTop f
  | 0 => rfl
  | i + 1 => by simp only [xq_s, xq_setTop T f cA cI N M i, State.heap_setTop, State.pushCell_setTop, State.setCell_setTop]
section XQ
variable {p : Program} {l : Launch} {e : Env} {R : Room} {s : State} {m : MethodId} {args : Array Value} {below : List Frame} {meth : Method} {c : Code} {T : State} {locs : List Loc} {cells slots : Nat}
theorem xq_stand (X : Stand p l e R s m args below meth c T locs cells slots) (cA cI : ClassId) (N M : Nat) : ∀ i, Stand p l e R s m args below meth c (xq_s T cA cI N M i) (locs ++ (List.range i).map (fun j => (⟨T.heap.size, j⟩ : Loc))) (cells + 1 + i) (slots + N + i * M) := by
  intro i
  induction i with
  | zero =>
    have h := X.pushed (xq_top cA N T.heap.size 0)
    have e1 : (xq_top cA N T.heap.size 0).slots.size = N := by simp [xq_top]
    rw [e1] at h
    simpa [xq_s] using h
  | succ i ih =>
    have h2 := (xq_facts T cA cI N M i).2.1
    have h1 := (xq_facts T cA cI N M i).1
    have hlt : T.heap.size < (xq_s T cA cI N M i).heap.size := by omega
    have hc : ((xq_s T cA cI N M i).pushCell (xq_row cI M)).heap[T.heap.size]? = some (xq_top cA N T.heap.size i) := by rw [State.heap_pushCell_of_lt (h := hlt)]; exact h2
    have h := (ih.pushed (xq_row cI M)).stored hc i (.ref (T.heap.size + 1 + i))
    have e1 : (xq_row cI M).slots.size = M := by simp
    rw [e1, xq_topS] at h
    have e2 : (locs ++ (List.range (i + 1)).map (fun j => (⟨T.heap.size, j⟩ : Loc))) = (locs ++ (List.range i).map (fun j => (⟨T.heap.size, j⟩ : Loc))) ++ [⟨T.heap.size, i⟩] := by simp [List.range_succ]
    have e3 : slots + N + (i + 1) * M = slots + N + i * M + M := by rw [Nat.succ_mul]; omega
    rw [e2, e3]
    exact h
/-- the model's own loop -/
theorem xq_make {E : CtlPost} {d : Bool} {acts : List Action} {cA cI c0 : ClassId} {k kc : Class} {n v : Int32} (hk : T.vm.classes[cA]? = some k) (hkind : k.kind = .array cI (.array .int)) (hkc : T.vm.classes[cI]? = some kc) (hkindc : kc.kind = .array c0 .int) (hn : ¬ n < 0) (hv : ¬ v < 0)
    (hl1 : ¬ n.toNatClampNeg > e.platform.arrayLengthLimit) (hh1 : ¬ n.toNatClampNeg * componentBytes (.array .int) > e.platform.maxHeapBytes) (hl2 : ¬ v.toNatClampNeg > e.platform.arrayLengthLimit) (hh2 : ¬ v.toNatClampNeg * componentBytes .int > e.platform.maxHeapBytes)
    (hc : T.heap.size + 1 + n.toNatClampNeg ≤ e.platform.maxCells) (hs : T.slotsUsed + n.toNatClampNeg + n.toNatClampNeg * v.toNatClampNeg ≤ e.platform.maxSlots)
    {Q : Addr → Pre} (hq : ∀ d' acts', Q T.heap.size d' acts' (xq_s T cA cI n.toNatClampNeg v.toNatClampNeg n.toNatClampNeg)) : wp (multianewarray.make cA [n, v]) Q E e d acts T := by
  generalize hN : n.toNatClampNeg = N at *
  generalize hM : v.toNatClampNeg = M at *
  have hx : N * M = N * M := rfl
  rw [multianewarray.make]
  simp only [wp_bind', hn, if_false, W.theClass, hk, hkind, Option.some.injEq, exists_eq_left', hN]
  refine W.newArray_of hk hkind hl1 hh1 (by omega) (by omega) rfl (fun acts' => ?_)
  rw [← xq_top0 cA N T.heap.size]
  have hf : ([v].find? (· < 0)) = none := by simp [hv]
  simp only [hf]
  rw [ite_self, wp_bind', Std.Legacy.Range.forIn_eq_forIn_range']
  have hsz : ([:N] : Std.Legacy.Range).size = N := by simp [Std.Legacy.Range.size]
  rw [hsz]
  refine wp_forIn_inv (fun rest S => ∃ i, i ≤ N ∧ rest = List.range' i (N - i) ∧ S = xq_s T cA cI N M i) _ _ ⟨0, Nat.zero_le _, rfl, rfl⟩ ?_ ?_
  · rintro x rest S d' a' Q' ⟨i, hi, hr, rfl⟩ hnext
    have hlt : i < N := by
      rcases Nat.lt_or_ge i N with h | h
      · exact h
      · rw [show N - i = 0 by omega] at hr; cases hr
    rw [show N - i = (N - (i + 1)) + 1 by omega, List.range'_succ] at hr
    obtain ⟨rfl, hrest⟩ := List.cons.inj hr
    obtain ⟨f1, f2, f3, f4, -, -⟩ := xq_facts T cA cI N M x
    have hmul : x * M + M ≤ N * M := by
      have := Nat.mul_le_mul_right M (show x + 1 ≤ N from hlt)
      rwa [Nat.succ_mul] at this
    simp only [wp_bind']
    rw [multianewarray.make]
    simp only [wp_bind', hv, if_false, W.theClass, f3, hkc, hkindc, Option.some.injEq, exists_eq_left', hM]
    refine W.newArray_of (by rw [f3]; exact hkc) hkindc hl2 hh2 (by rw [f1]; omega) (by rw [f4]; omega) rfl (fun acts2 => ?_)
    have hlt0 : T.heap.size < (xq_s T cA cI N M x).heap.size := by rw [f1]; omega
    simp only [W.writeLoc, wp_bind', wp_pure']
    refine ⟨xq_top cA N T.heap.size x, by rw [State.heap_pushCell_of_lt (h := hlt0)]; exact f2, by simp [xq_top], by simp [xq_top]; exact hlt, ?_, hnext _ _ _ ⟨x + 1, hlt, hrest, ?_⟩⟩
    · simp [State.fitsSlot, State.slotType?, f3, xq_top, hk, hkind, fits]
    · rw [f1, xq_topS]; rfl
  · rintro S d' a' ⟨i, hi, hr, rfl⟩
    have e1 : i = N := by
      rcases Nat.lt_or_ge i N with h | h
      · rw [show N - i = (N - (i + 1)) + 1 by omega, List.range'_succ] at hr; cases hr
      · omega
    subst e1
    simp only [wp_pure']
    exact hq _ _
theorem xq_step (X : Stand p l e R s m args below meth c T locs cells slots) (hexec : p.tables.exec = Jvm.exec) {own : String} {index : Nat} (hown : s.vm.findClass own = some m.cls) (hclink : (Cond.classLink own index "[[I").before args s = true)
    {cA cI c0 : ClassId} {kA kC : Class} (hA : s.vm.findClass "[[I" = some cA) (hkA : s.vm.classes[cA]? = some kA) (hkindA : kA.kind = .array cI (.array .int)) (hkC : s.vm.classes[cI]? = some kC) (hkindC : kC.kind = .array c0 .int)
    {g : JFrame} (hg : g.method = m) (hdg : decode c.code g.pc = .ok (.multianewarray index 2, 4)) {n v : Int32} {rest : List Value} (hstack : g.stack = .int v :: .int n :: rest) (hn : ¬ n < 0) (hv : ¬ v < 0) (hb1 : n.toNatClampNeg * 4 ≤ 536870912) (hb2 : v.toNatClampNeg * 4 ≤ 536870912)
    (hcells : cells + (1 + n.toNatClampNeg) ≤ R.cells) (hslots : slots + (n.toNatClampNeg + n.toNatClampNeg * v.toNatClampNeg) ≤ R.slots) :
    ∃ vm₁ : Vm, s.WarmedH vm₁ ∧ Stand p l e R s m args below meth c (xq_s (T.setVm vm₁) cA cI n.toNatClampNeg v.toNatClampNeg n.toNatClampNeg) (locs ++ (List.range n.toNatClampNeg).map (fun j => (⟨T.heap.size, j⟩ : Loc))) (cells + 1 + n.toNatClampNeg) (slots + n.toNatClampNeg + n.toNatClampNeg * v.toNatClampNeg) ∧
      ∀ tg, Steps p.tables e below ((xq_s (T.setVm vm₁) cA cI n.toNatClampNeg v.toNatClampNeg n.toNatClampNeg).setTop { g with pc := g.pc + 4, stack := .ref T.heap.size :: rest }) tg → Steps p.tables e below (T.setTop g) tg := by
  subst hg
  have hpl : e.platform.magicAccessors = ({} : Platform).magicAccessors := by rw [X.admits.platform]
  obtain ⟨c1, hf1, hcl⟩ := Cond.classLink_spec hown hclink e.platform hpl
  cases hA.symm.trans hf1
  obtain ⟨hg₁, hwarm₁, hready₁⟩ := State.classEntry (e := e) X.warmed hcl
  generalize T.vm.noted g.method.cls index (.cls cA) = vm₁ at hg₁ hwarm₁ hready₁
  have hal : s.vm.Alike vm₁ := hwarm₁.alike
  obtain ⟨kA₁, hkA₁, heA⟩ := hal.2.2 _ _ hkA
  obtain ⟨kC₁, hkC₁, heC⟩ := hal.2.2 _ _ hkC
  have hkindA₁ : kA₁.kind = .array cI (.array .int) := by rw [heA]; exact hkindA
  have hkindC₁ : kC₁.kind = .array c0 .int := by rw [heC]; exact hkindC
  have X₁ := X.noted hwarm₁
  have XF := xq_stand X₁ cA cI n.toNatClampNeg v.toNatClampNeg n.toNatClampNeg
  obtain ⟨hr1, hr2⟩ := X.roomAbove hcells hslots
  refine ⟨vm₁, hwarm₁, XF, fun tg hrest => ?_⟩
  have hl1 : ¬ n.toNatClampNeg > e.platform.arrayLengthLimit := by rw [Launch.admits_arrayLengthLimit X.admits]; omega
  have hh1 : ¬ n.toNatClampNeg * componentBytes (.array .int) > e.platform.maxHeapBytes := by
    rw [Launch.admits_maxHeapBytes X.admits]; show ¬ n.toNatClampNeg * 4 > 536870912; omega
  have hl2 : ¬ v.toNatClampNeg > e.platform.arrayLengthLimit := by rw [Launch.admits_arrayLengthLimit X.admits]; omega
  have hh2 : ¬ v.toNatClampNeg * componentBytes .int > e.platform.maxHeapBytes := by
    rw [Launch.admits_maxHeapBytes X.admits]; show ¬ v.toNatClampNeg * 4 > 536870912; omega
  jvm_step X.here [hexec, hdg]
  simp only [multianewarray.sem, wp_bind', W.resolveClassAt_links (State.method?_setTop g X.here.top) hg₁]
  rw [W.popN, if_neg (by decide)]
  refine ⟨g, State.topJava?_setTop' (s := T.setVm vm₁) g X.here.top, [.int n, .int v], rest, rfl, hstack, ?_⟩
  simp only [List.mapM_cons, List.mapM_nil, wp_bind', wp_pure']
  have eS : ((T.setTop g).setVm vm₁).setTop { g with stack := rest } = (T.setVm vm₁).setTop { g with stack := rest } := by
    show ((T.setVm vm₁).setTop g).setTop _ = _
    rw [State.setTop_setTop]
  rw [eS]
  refine xq_make (k := kA₁) (kc := kC₁) (cI := cI) (c0 := c0) hkA₁ hkindA₁ hkC₁ hkindC₁ hn hv hl1 hh1 hl2 hh2 (by show T.heap.size + 1 + _ ≤ _; omega) (by show T.slotsUsed + _ + _ ≤ _; omega) (fun d' acts' => ?_)
  rw [xq_setTop]
  simp only [wp_bind', W.mark, W.pushRef, State.topJava?_setTop' _ XF.here.top, Option.some.injEq, exists_eq_left', State.setTop_setTop, State.heap_setTop]
  intro acts
  simp [jvm]
  exact hrest
end XQ
def xq_f (q1 q2 q3 q4 q5 : Nat) : Nat → Option Nat := fun j => match j with
  | 0 => some q1
  | 1 => some q2
  | 2 => some q3
  | 3 => some q4
  | 4 => some q5
  | _ => none
theorem xq_D {A : Nat → Prop} {w : va_W} {b : Nat} (h : ∀ (k : Nat) (q : Nat × va_E), w[k]? = some q → q.1 = b + k) (hA : ∀ x : Nat, b ≤ x → A x) : va_D A w :=
  ⟨fun i j x y hi hj e => by have h1 := h i x hi; have h2 := h j y hj; omega, fun k q hk => hA _ (by rw [h k q hk]; omega)⟩
section XQ5
variable {p : Program} {l : Launch} {e : Env} {R : Room} {s : State} {m : MethodId} {args : Array Value} {below : List Frame} {meth : Method} {c : Code} {H : Heap} {locs : List Loc} {cells slots : Nat} {Q : State → Prop}
variable {cc : ByteArray} {pc : Nat} {ls : Array Slot} {rest : List Value} {D : va_G} {cl : List vw_C} {A : Nat → Prop} {tys : List (ClassId × FieldType)} {ws : va_W} {H0 : Heap}
theorem xk_multi5 (M : Nat) (hx : p.tables.exec = Jvm.exec) (hb : c.code = cc) {own : String} {index : Nat} (hown : s.vm.findClass own = some m.cls) (hclink : (Cond.classLink own index "[[I").before args s = true) (hN : xq_Ar s) (hK : va_K D cl tys s) (hP : va_P D cl ws H) (hD : va_D A ws) (hS : va_S A H0 H locs) (hA : ∀ q, H0.size ≤ q → A q)
    (t0 : Nat) {cI : ClassId} (ht0 : tys[t0]? = some (cI, .int)) (t1 : Nat) {cQ : ClassId} (ht1 : tys[t1]? = some (cQ, .array .int)) {n v : Int32} (hn : n = 5) (hv : v = nI M) (hM : M ≤ 1000000) (hcells : cells + 6 ≤ R.cells) (hslots : slots + (5 + 5 * M) ≤ R.slots) (hdg : decode cc pc = .ok (.multianewarray index 2, 4))
    (kk : ∀ (q q1 q2 q3 q4 q5 : Nat) (H1 : Heap) (locs1 : List Loc), va_P D cl (ws ++ [(q, .inl (cQ, 5, .inr (.inr (.inr (.inr (xq_f q1 q2 q3 q4 q5)))))), (q1, .inl (cI, M, .inl (fun _ => 0))), (q2, .inl (cI, M, .inl (fun _ => 0))), (q3, .inl (cI, M, .inl (fun _ => 0))), (q4, .inl (cI, M, .inl (fun _ => 0))), (q5, .inl (cI, M, .inl (fun _ => 0)))]) H1 →
      va_D A (ws ++ [(q, .inl (cQ, 5, .inr (.inr (.inr (.inr (xq_f q1 q2 q3 q4 q5)))))), (q1, .inl (cI, M, .inl (fun _ => 0))), (q2, .inl (cI, M, .inl (fun _ => 0))), (q3, .inl (cI, M, .inl (fun _ => 0))), (q4, .inl (cI, M, .inl (fun _ => 0))), (q5, .inl (cI, M, .inl (fun _ => 0)))]) → va_S A H0 H1 locs1 →
      W p l e R s m args below meth c H1 locs1 (cells + 6) (slots + (5 + 5 * M)) Q (F0 m (pc + 4) ls (.ref q :: rest))) : W p l e R s m args below meth c H locs cells slots Q (F0 m pc ls (.int v :: .int n :: rest)) := by
  subst hn; subst hv
  obtain ⟨cA, cI2, kA, g1, g2, g3, g4⟩ := hN
  have r0 : s.vm.findClass "[I" = some cI := (hK.2 t0 _ ht0).2
  have r1 : s.vm.findClass "[[I" = some cQ := (hK.2 t1 _ ht1).2
  cases Option.some.inj (g1.symm.trans r1)
  cases Option.some.inj (g2.symm.trans r0)
  obtain ⟨-, kC, hkC, c0, hkindC⟩ := (hK.2 t0 _ ht0).1 0 (fun _ => .null)
  intro T hT X
  subst hT; subst hb
  have e5 : (5 : Int32).toNatClampNeg = 5 := by decide
  have eM : (nI M).toNatClampNeg = M := nI_clamp (by omega)
  have XS := xq_step X hx hown hclink g1 g3 g4 hkC hkindC (g := F0 m pc ls (.int (nI M) :: .int 5 :: rest)) rfl hdg (n := 5) (v := nI M) (rest := rest) rfl (by decide) (nI_pos (by omega)) (by rw [e5]; omega) (by rw [eM]; omega) (by rw [e5]; exact hcells) (by rw [e5, eM]; exact hslots)
  rw [e5, eM] at XS
  obtain ⟨vm₁, hW, X', st⟩ := XS
  obtain ⟨f1, f2, f3, f4, f5, f6⟩ := xq_facts (T.setVm vm₁) cQ cI 5 M 5
  have hsz : (T.setVm vm₁).heap.size = T.heap.size := rfl
  rw [hsz] at f1 f2 f5 f6
  generalize hS1 : xq_s (T.setVm vm₁) cQ cI 5 M 5 = S1 at *
  have old : ∀ x : Nat, x < T.heap.size → S1.heap[x]? = T.heap[x]? := f5
  have hk : ∀ (k : Nat) (x : Nat × va_E), ws[k]? = some x → S1.heap[x.1]? = T.heap[x.1]? := fun k x hx => old x.1 ((hP k x hx).lt)
  have hrow : ∀ j : Nat, j < 5 → S1.heap[T.heap.size + 1 + j]? = some (vp_cell cI (M, .inl (fun _ => 0))) := fun j hj => by
    rw [f6 j hj, vp_cell_i]; exact congrArg some (arrV_new cI M (.int 0))
  have htop : S1.heap[T.heap.size]? = some (vp_cell cQ (5, .inr (.inr (.inr (.inr (xq_f (T.heap.size + 1) (T.heap.size + 2) (T.heap.size + 3) (T.heap.size + 4) (T.heap.size + 5))))))) := by
    rw [f2, vp_cell_q]
    simp only [xq_top, arrV, Option.some.injEq, Cell.mk.injEq, true_and, and_true]
    apply Array.ext
    · simp
    · intro j h1 h2
      simp only [Array.size_ofFn] at h1
      simp only [Array.getElem_ofFn]
      rw [if_pos h1]
      rcases (show j = 0 ∨ j = 1 ∨ j = 2 ∨ j = 3 ∨ j = 4 by omega) with rfl | rfl | rfl | rfl | rfl <;> simp [xq_f, va_rf] <;> omega
  have key : ∀ (k : Nat) (q : Nat × va_E), ([(T.heap.size, .inl (cQ, 5, .inr (.inr (.inr (.inr (xq_f (T.heap.size + 1) (T.heap.size + 2) (T.heap.size + 3) (T.heap.size + 4) (T.heap.size + 5))))))), (T.heap.size + 1, .inl (cI, M, .inl (fun _ => 0))), (T.heap.size + 2, .inl (cI, M, .inl (fun _ => 0))), (T.heap.size + 3, .inl (cI, M, .inl (fun _ => 0))), (T.heap.size + 4, .inl (cI, M, .inl (fun _ => 0))), (T.heap.size + 5, .inl (cI, M, .inl (fun _ => 0)))] : va_W)[k]? = some q → q.1 = T.heap.size + k ∧ va_at D cl q S1.heap := by
    intro k q hk
    match k, hk with
    | 0, hk => cases hk; exact ⟨rfl, htop⟩
    | 1, hk => cases hk; exact ⟨rfl, hrow 0 (by decide)⟩
    | 2, hk => cases hk; exact ⟨rfl, hrow 1 (by decide)⟩
    | 3, hk => cases hk; exact ⟨rfl, hrow 2 (by decide)⟩
    | 4, hk => cases hk; exact ⟨rfl, hrow 3 (by decide)⟩
    | 5, hk => cases hk; exact ⟨rfl, hrow 4 (by decide)⟩
    | k + 6, hk => simp at hk
  have hfree : ∀ x : Nat, T.heap.size ≤ x → A x := fun x h => hA x (Nat.le_trans hS.1 h)
  have kk1 := kk T.heap.size (T.heap.size + 1) (T.heap.size + 2) (T.heap.size + 3) (T.heap.size + 4) (T.heap.size + 5) S1.heap (locs ++ (List.range 5).map (fun j => (⟨T.heap.size, j⟩ : Loc)))
    ((hP.kept hk).app (fun k q h => (key k q h).2)) (hD.app (xq_D (fun k q h => (key k q h).1) hfree) (fun i j x y hi hj => by have h1 := (hP i x hi).lt; have h2 := (key j y hj).1; omega))
    ⟨Nat.le_trans hS.1 (by omega), fun x h1 h2 => (old x (Nat.lt_of_lt_of_le h1 hS.1)).trans (hS.2.1 x h1 h2), fun z hz => by
      rcases List.mem_append.mp hz with h | h
      · exact hS.2.2 z h
      · obtain ⟨j, -, rfl⟩ := List.mem_map.mp h; exact hfree _ (Nat.le_refl _)⟩
  obtain ⟨t, a1, b1⟩ := kk1 S1 rfl (by rw [Nat.add_assoc slots] at X'; exact X')
  exact ⟨t, st t a1, b1⟩
end XQ5
