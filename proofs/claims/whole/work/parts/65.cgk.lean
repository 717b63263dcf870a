/-! The class's grammar: its moves; ops of its code; the checker on and off. -/
def mv (N : Nat) (c : ms) : Option (Unit × ms) :=
  if (c.1 264 0) = 0 then fn_Grammar_moduleHead_Gr N c else if (c.1 264 0) = 1 then (if (c.1 214 0) = 0 then some ((), upI c 264 (fun _ => 9)) else some ((), upI c 264 (fun _ => 0))) else if (c.1 264 0) = 2 then fn_Grammar_item_Gr N c else if (c.1 264 0) = 3 then fn_Grammar_link_Gr N c else if (c.1 264 0) = 4 then fn_Grammar_statement_Gr N c else if (c.1 264 0) = 5 then fn_Grammar_behindStatement_Gr N c else if (c.1 264 0) = 6 then fn_Grammar_operand_Gr N c else if (c.1 264 0) = 7 then fn_Grammar_behindOperand_Gr N c else fn_Grammar_behindExp_Gr N c
/-- k moves -/
def Rc (N : Nat) : Nat → ms → ms → Prop
  | 0, c, c' => c' = c
  | k + 1, c, c' => ∃ c1, c.1 217 0 = 0 ∧ ¬ c.1 264 0 = 9 ∧ mv N c = some ((), c1) ∧ Rc N k c1 c'
theorem Rc.trans {N : Nat} : ∀ {k j : Nat} {a b c : ms}, Rc N k a b → Rc N j b c → Rc N (k + j) a c
  | 0, j, a, b, c, h, g => by rw [Nat.zero_add]; have h : b = a := h; rw [← h]; exact g
  | k + 1, j, a, b, c, h, g => by
    obtain ⟨a1, h1, h2, h3, h4⟩ := h
    rw [show k + 1 + j = (k + j) + 1 by omega]
    exact ⟨a1, h1, h2, h3, Rc.trans h4 g⟩
theorem Rc.one {N : Nat} {a b : ms} (h1 : a.1 217 0 = 0) (h2 : ¬ a.1 264 0 = 9) (h3 : mv N a = some ((), b)) : Rc N 1 a b := ⟨b, h1, h2, h3, rfl⟩
theorem parse_step {N n : Nat} {x3 x4 : Int32} {c c1 : ms} (h0 : ¬ x3 ≤ x4) (h1 : c.1 217 0 = 0) (h2 : ¬ c.1 264 0 = 9) (h3 : mv N c = some ((), c1)) : hd_Grammar_parse_Gr_Ds_56 N (n + 1) x3 x4 c = hd_Grammar_parse_Gr_Ds_56 N n x3 (x4 + 1) c1 := by
  show bd_Grammar_parse_Gr_Ds_56 N (hd_Grammar_parse_Gr_Ds_56 N n) x3 x4 c = _
  unfold bd_Grammar_parse_Gr_Ds_56 bk_Grammar_parse_Gr_Ds_156
  rw [if_neg h0, if_neg h2, if_pos h1]
  unfold mv at h3
  by_cases s0 : c.1 264 0 = 0
  · rw [if_pos s0] at h3 ⊢; rw [h3, obind]
  rw [if_neg s0] at h3 ⊢
  by_cases s1 : c.1 264 0 = 1
  · rw [if_pos s1] at h3 ⊢
    by_cases z : c.1 214 0 = 0
    · rw [if_pos z] at h3 ⊢; cases h3; rfl
    · rw [if_neg z] at h3 ⊢; cases h3; rfl
  rw [if_neg s1] at h3 ⊢
  by_cases s2 : c.1 264 0 = 2
  · rw [if_pos s2] at h3 ⊢; rw [h3, obind]
  rw [if_neg s2] at h3 ⊢
  by_cases s3 : c.1 264 0 = 3
  · rw [if_pos s3] at h3 ⊢; rw [h3, obind]
  rw [if_neg s3] at h3 ⊢
  by_cases s4 : c.1 264 0 = 4
  · rw [if_pos s4] at h3 ⊢; rw [h3, obind]
  rw [if_neg s4] at h3 ⊢
  by_cases s5 : c.1 264 0 = 5
  · rw [if_pos s5] at h3 ⊢; rw [h3, obind]
  rw [if_neg s5] at h3 ⊢
  by_cases s6 : c.1 264 0 = 6
  · rw [if_pos s6] at h3 ⊢; rw [h3, obind]
  rw [if_neg s6] at h3 ⊢
  by_cases s7 : c.1 264 0 = 7
  · rw [if_pos s7] at h3 ⊢; rw [h3, obind]
  rw [if_neg s7] at h3 ⊢
  rw [h3, obind]
/-- k moves within the bound, then a state at which the loop ends -/
theorem parse_run {N B : Nat} (hB : B < 2 ^ 30) : ∀ (k n j : Nat) (c c' : ms), Rc N k c c' → (¬ c'.1 217 0 = 0 ∨ c'.1 264 0 = 9) → j + k < B → k < n → hd_Grammar_parse_Gr_Ds_56 N n (nI B) (nI j) c = some ((), c') := by
  intro k
  induction k with
  | zero =>
    intro n j c c' h hc h1 h2
    have h : c' = c := h
    subst h
    obtain ⟨n, rfl⟩ : ∃ n', n = n' + 1 := ⟨n - 1, by omega⟩
    show bd_Grammar_parse_Gr_Ds_56 N (hd_Grammar_parse_Gr_Ds_56 N n) (nI B) (nI j) c' = _
    unfold bd_Grammar_parse_Gr_Ds_56
    rw [if_neg (nI_ge (by omega) (by omega))]
    by_cases z : c'.1 264 0 = 9
    · rw [if_pos z]
    · rw [if_neg z, if_neg (hc.resolve_right z)]
  | succ k ih =>
    intro n j c c' h hc h1 h2
    obtain ⟨n, rfl⟩ : ∃ n', n = n' + 1 := ⟨n - 1, by omega⟩
    obtain ⟨c1, g1, g2, g3, g4⟩ := h
    rw [parse_step (nI_ge (by omega) (by omega)) g1 g2 g3, nI_1]
    exact ih n (j + 1) c1 c' g4 hc (by omega) (by omega)
/-! ranks, signs -/
def rkI (v0 : Int32) : Int32 := if v0 = 5 then 2 else (if v0 = 6 then 1 else (if v0 = 7 then 6 else (if v0 = 8 then 6 else (if v0 = 9 then 7 else (if v0 = 10 then 7 else (if v0 = 11 then 8 else (if v0 = 12 then 8 else (if v0 = 38 then 5 else (if v0 = 42 then 10 else (if v0 = 43 then 9 else (if v0 = 45 then 9 else (if v0 = 60 then 7 else (if v0 = 62 then 7 else (if v0 = 94 then 4 else (if v0 = 124 then 3 else (if v0 = 256 then 11 else 0))))))))))))))))
theorem ite_som {c : Prop} [Decidable c] {s : ms} {a b : Int32} {o : Option (Int32 × ms)} (h : o = some (b, s)) : (if c then some (a, s) else o) = some (if c then a else b, s) := by
  by_cases q : c
  · rw [if_pos q, if_pos q]
  · rw [if_neg q, if_neg q]; exact h
theorem rankI (N : Nat) (v : Int32) (c : ms) : fn_Grammar_rankOf N v c = some (rkI v, c) := ite_som (ite_som (ite_som (ite_som (ite_som (ite_som (ite_som (ite_som (ite_som (ite_som (ite_som (ite_som (ite_som (ite_som (ite_som (ite_som (ite_som rfl))))))))))))))))
theorem rkI_kap : ∀ k : Fin 405, vk k.1 = true → rkI (nI (kap k.1)) = nI (rk k.1) := by decide +kernel
theorem isUC (N : Nat) (v : Int32) (c : ms) : fn_Grammar_isUnary N v c = some (if v = 126 then 1 else if v = 33 then 1 else if v = 45 then 1 else if v = 38 then 1 else if v = 124 then 1 else if v = 94 then 1 else 0, c) := ite_som (ite_som (ite_som (ite_som (ite_som (ite_som rfl)))))
theorem isU_kap : ∀ k : Fin 405, vk k.1 = true → (if nI (kap k.1) = 126 then 1 else if nI (kap k.1) = 33 then 1 else if nI (kap k.1) = 45 then 1 else if nI (kap k.1) = 38 then 1 else if nI (kap k.1) = 124 then 1 else if nI (kap k.1) = 94 then (1 : Int32) else 0) = b01 (isU k.1) := by decide +kernel
theorem isB_vk {k : Nat} (h : isB k) : vk k = true := by
  rcases h with rfl | rfl | rfl | rfl | rfl | rfl | rfl | rfl | rfl | rfl | rfl | rfl | rfl | rfl | rfl | rfl <;> decide
theorem kap_U {k : Nat} (h : isU k = true) : kap k = k ∧ k < 128 := by
  simp only [isU, decide_eq_true_eq] at h
  unfold kap
  constructor
  · rw [if_pos (by omega)]
  · omega
/-! the checker off: nothing is done -/
def OffC (c : ms) : Prop := ¬ c.1 242 0 = 0 ∨ ¬ c.1 217 0 = 0
theorem offC {N : Nat} {c : ms} (h : OffC c) : fn_Checker_isOff_Ch N c = some (1, c) := by
  unfold fn_Checker_isOff_Ch
  by_cases z : c.1 242 0 = 0
  · rw [if_pos z, if_neg (h.resolve_left (fun q => q z))]
  · rw [if_neg z]
theorem off_literal {N : Nat} {c : ms} {x : Int32} (h : OffC c) : fn_Checker_literal_Ch N x c = some ((), c) := by unfold fn_Checker_literal_Ch; rw [offC h, obind, if_neg (show ¬ (1 : Int32) = 0 by decide)]
theorem off_name {N : Nat} {c : ms} {x y : Int32} (h : OffC c) : fn_Checker_name_Ch N x y c = some ((), c) := by unfold fn_Checker_name_Ch; rw [offC h, obind, if_neg (show ¬ (1 : Int32) = 0 by decide)]
theorem off_part {N : Nat} {c : ms} {x y : Int32} (h : OffC c) : fn_Checker_part_Ch N x y c = some ((), c) := by unfold fn_Checker_part_Ch; rw [offC h, obind, if_neg (show ¬ (1 : Int32) = 0 by decide)]
theorem off_unary {N : Nat} {c : ms} {x : Int32} (h : OffC c) : fn_Checker_unary_Ch N x c = some ((), c) := by unfold fn_Checker_unary_Ch; rw [offC h, obind, if_neg (show ¬ (1 : Int32) = 0 by decide)]
theorem off_binary {N : Nat} {c : ms} {x y : Int32} (h : OffC c) : fn_Checker_binary_Ch N x y c = some ((), c) := by unfold fn_Checker_binary_Ch; rw [offC h, obind, if_neg (show ¬ (1 : Int32) = 0 by decide)]
theorem off_index {N : Nat} {c : ms} (h : OffC c) : fn_Checker_index_Ch N c = some ((), c) := by unfold fn_Checker_index_Ch; rw [offC h, obind, if_neg (show ¬ (1 : Int32) = 0 by decide)]
theorem off_choose {N : Nat} {c : ms} {x : Int32} (h : OffC c) : fn_Checker_choose_Ch N x c = some ((), c) := by unfold fn_Checker_choose_Ch; rw [offC h, obind, if_neg (show ¬ (1 : Int32) = 0 by decide)]
theorem off_join {N : Nat} {c : ms} (h : OffC c) : fn_Checker_join_Ch N c = some ((), c) := by unfold fn_Checker_join_Ch; rw [offC h, obind, if_neg (show ¬ (1 : Int32) = 0 by decide)]
theorem off_braces {N : Nat} {c : ms} {x : Int32} (h : OffC c) : fn_Checker_braces_Ch N x c = some ((), c) := by unfold fn_Checker_braces_Ch; rw [offC h, obind, if_neg (show ¬ (1 : Int32) = 0 by decide)]
theorem off_repeat {N : Nat} {c : ms} {x y : Int32} (h : OffC c) : fn_Checker_repeat_Ch N x y c = some ((), c) := by unfold fn_Checker_repeat_Ch; rw [offC h, obind, if_neg (show ¬ (1 : Int32) = 0 by decide)]
/-! ops in the class's code -/
def cop (row : Nat → Int64) (fd : Nat) (lit : Nat → Int64) (lc j : Nat) (o : aop) : Prop := ∃ op arg : Int32, row j = crw op arg ∧
  (o.1 = 0 → op = 513 ∧ ∃ n, arg = nI n ∧ n < lc ∧ lit n = lN o.2.1) ∧ (o.1 = 1 → op = 514 ∧ arg = nI (o.2.1 - fd) ∧ fd ≤ o.2.1 ∧ o.2.1 < 10923) ∧ (o.1 = 2 → op = 347 ∧ arg = nI (o.2.2 * 256 + (o.2.1 - o.2.2 + 1)) ∧ o.2.2 ≤ o.2.1 ∧ o.2.1 < 64) ∧ (o.1 = 3 → op = 91) ∧ (o.1 = 4 → op = nI (256 + o.2.1) ∧ arg = nI o.2.2 ∧ isU o.2.1 = true) ∧ (o.1 = 5 → op = nI (kap o.2.1) ∧ arg = nI o.2.2 ∧ isB o.2.1) ∧ (o.1 = 6 → op = 512) ∧ (o.1 = 7 → op = 44 ∧ arg = nI o.2.1) ∧ (o.1 = 8 → op = 379 ∧ arg = nI (o.2.1 * 256 + o.2.2)) ∧ o.1 ≤ 8
def cEnc (row : Nat → Int64) (fd : Nat) (lit : Nat → Int64) (lc sz : Nat) (L : List aop) : Prop := ∀ i o, L[i]? = some o → cop row fd lit lc (sz + i) o
theorem cEnc.mono {row row' : Nat → Int64} {fd lc sz : Nat} {lit : Nat → Int64} {L : List aop} (h : cEnc row fd lit lc sz L) (h1 : ∀ k, k < sz + L.length → row' k = row k) : cEnc row' fd lit lc sz L := fun i o hi => by
  have : i < L.length := (List.getElem?_eq_some_iff.mp hi).1
  obtain ⟨op, arg, e, r⟩ := h i o hi
  exact ⟨op, arg, by rw [h1 _ (by omega)]; exact e, r⟩
theorem cEnc.nil {row : Nat → Int64} {fd lc sz : Nat} {lit : Nat → Int64} : cEnc row fd lit lc sz [] := fun i o hi => by simp at hi
theorem cEnc.app {row : Nat → Int64} {fd lc sz : Nat} {lit : Nat → Int64} {A B : List aop} (h : cEnc row fd lit lc sz A) (g : cEnc row fd lit lc (sz + A.length) B) : cEnc row fd lit lc sz (A ++ B) := fun i o hi => by
  by_cases c : i < A.length
  · rw [List.getElem?_append_left c] at hi; exact h i o hi
  · rw [List.getElem?_append_right (by omega)] at hi
    have := g _ o hi
    rw [show sz + A.length + (i - A.length) = sz + i by omega] at this; exact this
theorem cEnc.one {row : Nat → Int64} {fd lc sz : Nat} {lit : Nat → Int64} {o : aop} (h : cop row fd lit lc sz o) : cEnc row fd lit lc sz [o] := fun i x hi => by
  cases i with
  | zero => cases hi; exact h
  | succ i => simp at hi
/-! the checker's state against the meaning: on (widths, ops, cost), or off with a fault -/
def Off (c : ms) (f p : Nat) : Prop := c.1 242 0 = nI f ∧ 0 < f ∧ f < 100 ∧ c.1 243 0 = nI p
theorem Off.off {c : ms} {f p : Nat} (h : Off c f p) : OffC c := Or.inl (by rw [h.1]; exact fun q => by have := (nI_eq (b := 0) (by have := h.2.2.1; omega) (by omega)).mp q; have := h.2.1; omega)
theorem Off.mono {c c' : ms} {f p : Nat} {ks js : List Nat} (h : Off c f p) (e : Eb ks js c c') (h1 : 242 ∉ ks) (h2 : 243 ∉ ks) : Off c' f p := by
  unfold Off at *; rw [e.1 242 h1, e.1 243 h2]; exact h
/-- how high the stack gets -/
def nd (k : Nat) : Nat := if k = 0 ∨ k = 1 then 0 else if k = 2 ∨ k = 4 ∨ k = 8 then 1 else if k = 6 then 3 else 2
def Hk (M : Nat) : List aop → Nat → Nat → Prop
  | [], h, h' => h = h'
  | o :: L, h, h' => nd o.1 ≤ h ∧ h - nd o.1 + 1 ≤ M ∧ Hk M L (h - nd o.1 + 1) h'
theorem Hk.app {M : Nat} : ∀ {A B : List aop} {h k h' : Nat}, Hk M A h k → Hk M B k h' → Hk M (A ++ B) h h'
  | [], B, h, k, h', a, b => by have a : h = k := a; rw [a]; exact b
  | o :: A, B, h, k, h', a, b => ⟨a.1, a.2.1, Hk.app a.2.2 b⟩
theorem Hk.one {M h : Nat} {o : aop} (h1 : h + 1 ≤ M) : Hk M [o] (h + nd o.1) (h + 1) := ⟨by omega, by omega, by show h + nd o.1 - nd o.1 + 1 = h + 1; omega⟩
theorem Hk.one' {M h k : Nat} {o : aop} (h1 : h + 1 ≤ M) (e : k = h + nd o.1) : Hk M [o] k (h + 1) := by rw [e]; exact Hk.one h1
def MO (fd : Nat) (lit : Nat → Int64) (lc : Nat) (c0 : ms) (T sz C0 : Nat) (c : ms) (ws : List Nat) (L : List aop) (C : Nat) : Prop :=
  Xc c (T + ws.length) (sz + L.length) (C0 + C) ∧ wsR (c.1 238) T ws ∧ (∀ k, k < T → c.1 238 k = c0.1 238 k) ∧ (∀ k, k < sz → c.2 336 k = c0.2 336 k) ∧ cEnc (c.2 336) fd lit lc sz L ∧ Hk 900 L T (T + ws.length)
theorem MO.start {fd lc T sz C0 : Nat} {lit : Nat → Int64} {c : ms} (h : Xc c T sz C0) : MO fd lit lc c T sz C0 c [] [] 0 := ⟨h, trivial, fun _ _ => rfl, fun _ _ => rfl, cEnc.nil, rfl⟩
theorem Xc.mono {c c' : ms} {T sz C : Nat} {ks js : List Nat} (h : Xc c T sz C) (e : Eb ks js c c') (hk : 242 ∉ ks ∧ 239 ∉ ks ∧ 337 ∉ ks ∧ 241 ∉ ks) (h2 : c'.1 217 0 = nI 0) : Xc c' T sz C := by
  obtain ⟨h1, -, h3, h4, h5, h6, h7⟩ := h
  exact ⟨by rw [e.1 242 hk.1]; exact h1, h2, by rw [e.1 239 hk.2.1]; exact h3, h4, by rw [e.1 337 hk.2.2.1]; exact h5, h6, by rw [e.1 241 hk.2.2.2]; exact h7⟩
theorem MO.mono {fd lc T sz C0 C : Nat} {lit : Nat → Int64} {c0 c c' : ms} {ws : List Nat} {L : List aop} {ks js : List Nat} (h : MO fd lit lc c0 T sz C0 c ws L C) (e : Eb ks js c c') (hk : 242 ∉ ks ∧ 239 ∉ ks ∧ 337 ∉ ks ∧ 241 ∉ ks) (hk2 : 238 ∉ ks) (hj : 336 ∉ js) (h2 : c'.1 217 0 = nI 0) : MO fd lit lc c0 T sz C0 c' ws L C := by
  obtain ⟨a1, a2, a3, a4, a5⟩ := h
  exact ⟨a1.mono e hk h2, by rw [e.1 238 hk2]; exact a2, by rw [e.1 238 hk2]; exact a3, by rw [e.2 336 hj]; exact a4, by rw [e.2 336 hj]; exact a5⟩
/-- an exp within -/
theorem MO.sub {fd lc T sz C0 C C2 : Nat} {lit : Nat → Int64} {c0 c c' : ms} {ws ws2 : List Nat} {L L2 : List aop} (h : MO fd lit lc c0 T sz C0 c ws L C) (g : MO fd lit lc c (T + ws.length) (sz + L.length) (C0 + C) c' ws2 L2 C2) : MO fd lit lc c0 T sz C0 c' (ws2 ++ ws) (L ++ L2) (C + C2) := by
  obtain ⟨a1, a2, a3, a4, a5, a6⟩ := h
  obtain ⟨b1, b2, b3, b4, b5, b6⟩ := g
  refine ⟨?_, ?_, fun k hk => by rw [b3 k (by omega), a3 k hk], fun k hk => by rw [b4 k (by omega), a4 k hk], cEnc.app (a5.mono b4) b5, by rw [List.length_append, show T + (ws2.length + ws.length) = T + ws.length + ws2.length by omega]; exact a6.app b6⟩
  · rw [List.length_append, List.length_append, show T + (ws2.length + ws.length) = T + ws.length + ws2.length by omega, show sz + (L.length + L2.length) = sz + L.length + L2.length by omega, show C0 + (C + C2) = C0 + C + C2 by omega]
    exact b1
  · clear b1 b4 b5 a5 b6 a6
    induction ws2 with
    | nil => exact a2.mono (fun k hk => b3 k (by omega))
    | cons w ws2 ih =>
      refine ⟨?_, b2.2.1, b2.2.2.1, ih b2.2.2.2⟩
      have := b2.1
      show c'.1 238 (T + (ws2 ++ ws).length) = nI w
      rw [List.length_append, show T + (ws2.length + ws.length) = T + ws.length + ws2.length by omega]; exact this
