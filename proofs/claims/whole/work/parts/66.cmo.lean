/-! The checker's methods against the meaning. -/
section CMO
variable {fd lc T sz C0 C N : Nat} {lit : Nat → Int64} {c0 c : ms} {ws : List Nat} {L : List aop}
/-- one op more, a width more -/
theorem MO.op {c' : ms} {w C' : Nat} {o : aop} {r : Int64} {ws' : List Nat} (h : MO fd lit lc c0 T sz C0 c ws' L C) (hX : Xc c' (T + ws.length + 1) (sz + L.length + 1) (C0 + C')) (hw : c'.1 238 = upd (c.1 238) (T + ws.length) (nI w)) (hr : c'.2 336 = vp_updL (c.2 336) (sz + L.length) r) (w1 : 1 ≤ w) (w2 : w ≤ 64) (hs : wsR (c.1 238) T ws) (hn : ws'.length = ws.length + nd o.1) (ho : ∀ row : Nat → Int64, row (sz + L.length) = r → cop row fd lit lc (sz + L.length) o) : MO fd lit lc c0 T sz C0 c' (w :: ws) (L ++ [o]) C' := by
  obtain ⟨a1, a2, a3, a4, a5, a6⟩ := h
  refine ⟨?_, ⟨by rw [hw, upd_at], w1, w2, hs.mono (fun k hk => by rw [hw, upd_ne (by omega)])⟩, fun k hk => by rw [hw, upd_ne (by omega), a3 k hk], fun k hk => by rw [hr, updL_ne (by omega), a4 k hk], cEnc.app (a5.mono (fun k hk => by rw [hr, updL_ne (by omega)])) (cEnc.one (ho _ ?_)), a6.app (Hk.one' (h := T + ws.length) (by have := hX.2.2.2.1; omega) (by omega))⟩
  · simpa [Nat.add_assoc] using hX
  · rw [hr, updL_at]
theorem MO.litr {li w v : Nat} (h : MO fd lit lc c0 T sz C0 c ws L C) (hT : T + ws.length + 1 < 900) (hz : sz + L.length + 1 < 40000) (hl : li < lc) (hlc : lc < 13000) (hc : c.1 340 0 = nI lc) (hw : c.1 338 li = nI w) (w1 : 1 ≤ w) (w2 : w ≤ 64) (hv : lit li = lN v) : ∃ c', fn_Checker_literal_Ch N (nI li) c = some ((), c') ∧ MO fd lit lc c0 T sz C0 c' (w :: ws) (L ++ [(0, v, 0)]) C ∧ XE c c' := by
  obtain ⟨c', a1, a2, a3, a4, a5⟩ := literal_C (N := N) (li := li) (w := w) h.1 hT hz (by omega) ⟨lc, hc, hl, hlc⟩ hw
  exact ⟨c', a1, h.op a2 a3 a4 w1 w2 h.2.1 rfl (fun row e => ⟨513, nI li, e, fun _ => ⟨rfl, li, rfl, hl, hv⟩, (fun z => absurd z (by simp)), (fun z => absurd z (by simp)), (fun z => absurd z (by simp)), (fun z => absurd z (by simp)), (fun z => absurd z (by simp)), (fun z => absurd z (by simp)), (fun z => absurd z (by simp)), (fun z => absurd z (by simp)), by simp⟩), a5⟩
theorem MO.name {wd d w : Nat} {x : Int32} (h : MO fd lit lc c0 T sz C0 c ws L C) (hT : T + ws.length + 1 < 900) (hz : sz + L.length + 1 < 40000) (hd : d < 10923) (hm : fn_Checker_meantBy_Ch N (nI wd) c = some (nI d, c)) (hw : c.1 323 d = nI w) (hf : c.1 233 0 = nI fd) (hfd : fd ≤ d) (w1 : 1 ≤ w) (w2 : w ≤ 64) (hso : ∃ k, fn_Checker_sortOf_Ch N (nI d) c = some (k, c) ∧ k ≠ -1) : ∃ c', fn_Checker_name_Ch N (nI wd) x c = some ((), c') ∧ MO fd lit lc c0 T sz C0 c' (w :: ws) (L ++ [(1, d, 0)]) C ∧ XE c c' := by
  obtain ⟨c', a1, a2, a3, a4, a5⟩ := name_C (N := N) (x := x) h.1 hT hz hd hm hw hf hfd hso
  exact ⟨c', a1, h.op a2 a3 a4 w1 w2 h.2.1 rfl (fun row e => ⟨514, nI (d - fd), e, (fun z => absurd z (by simp)), fun _ => ⟨rfl, rfl, hfd, hd⟩, (fun z => absurd z (by simp)), (fun z => absurd z (by simp)), (fun z => absurd z (by simp)), (fun z => absurd z (by simp)), (fun z => absurd z (by simp)), (fun z => absurd z (by simp)), (fun z => absurd z (by simp)), by simp⟩), a5⟩
theorem MO.nameNo {wd p : Nat} {y : Int32} (h : MO fd lit lc c0 T sz C0 c ws L C) (hm : fn_Checker_meantBy_Ch N (nI wd) c = some (y, c)) (hy : fn_Checker_sortOf_Ch N y c = some (-1, c)) : ∃ c', fn_Checker_name_Ch N (nI wd) (nI p) c = some ((), c') ∧ Off c' 22 p ∧ XE c c' := by
  obtain ⟨c', a1, a2, a3, a4⟩ := nameNo_C (N := N) (x := nI p) h.1 hm hy
  exact ⟨c', a1, ⟨a2, by decide, by decide, a3⟩, a4⟩
theorem MO.part {w hh l p : Nat} (h : MO fd lit lc c0 T sz C0 c (w :: ws) L C) (hz : sz + L.length + 1 < 40000) (h1 : hh < 65536) (h2 : l < 65536) : (¬ (hh < l ∨ w ≤ hh) → ∃ c', fn_Checker_part_Ch N (prt hh l) (nI p) c = some ((), c') ∧ MO fd lit lc c0 T sz C0 c' ((hh - l + 1) :: ws) (L ++ [(2, hh, l)]) C ∧ XE c c') ∧ ((hh < l ∨ w ≤ hh) → ∃ c', fn_Checker_part_Ch N (prt hh l) (nI p) c = some ((), c') ∧ Off c' 30 p ∧ XE c c') := by
  obtain ⟨w0, w1, w2, w3⟩ := h.2.1
  have hX : Xc c (T + ws.length + 1) (sz + L.length) (C0 + C) := h.1
  obtain ⟨p1, p2⟩ := part_C (N := N) (x := nI p) hX hz h1 h2 w2 w0
  constructor
  · intro k
    obtain ⟨c', a1, a2, a3, a4, a5⟩ := p1 k
    exact ⟨c', a1, h.op a2 a3 a4 (by omega) (by omega) w3 rfl (fun row e => ⟨347, nI (l * 256 + (hh - l + 1)), e, (fun z => absurd z (by simp)), (fun z => absurd z (by simp)), fun _ => ⟨rfl, rfl, by show l ≤ hh; omega, by show hh < 64; omega⟩, (fun z => absurd z (by simp)), (fun z => absurd z (by simp)), (fun z => absurd z (by simp)), (fun z => absurd z (by simp)), (fun z => absurd z (by simp)), (fun z => absurd z (by simp)), by simp⟩), a5⟩
  · intro k
    obtain ⟨c', a1, a2, a3, a4⟩ := p2 k
    exact ⟨c', a1, ⟨a2, by decide, by decide, a3⟩, a4⟩
theorem MO.un {w op : Nat} (h : MO fd lit lc c0 T sz C0 c (w :: ws) L C) (hz : sz + L.length + 1 < 40000) (ho : isU op = true) : ∃ c', fn_Checker_unary_Ch N (nI op) c = some ((), c') ∧ MO fd lit lc c0 T sz C0 c' ((if op = 126 ∨ op = 45 then w else 1) :: ws) (L ++ [(4, op, w)]) (C + w) ∧ XE c c' := by
  obtain ⟨w0, w1, w2, w3⟩ := h.2.1
  have hX : Xc c (T + ws.length + 1) (sz + L.length) (C0 + C) := h.1
  obtain ⟨c', a1, a2, a3, a4, a5⟩ := unary_C (N := N) (op := op) hX hz (kap_U ho).2 w2 w0
  exact ⟨c', a1, h.op (by rw [← Nat.add_assoc]; exact a2) a3 a4 (by split <;> omega) (by split <;> omega) w3 rfl (fun row e => ⟨_, _, e, (fun z => absurd z (by simp)), (fun z => absurd z (by simp)), (fun z => absurd z (by simp)), (fun z => absurd z (by simp)), fun _ => ⟨rfl, rfl, ho⟩, (fun z => absurd z (by simp)), (fun z => absurd z (by simp)), (fun z => absurd z (by simp)), (fun z => absurd z (by simp)), by simp⟩), a5⟩
theorem MO.bin {a b k p : Nat} (h : MO fd lit lc c0 T sz C0 c (b :: a :: ws) L C) (hz : sz + L.length + 1 < 40000) (hk : isB k) : ((bAny k = true ∨ a = b) → ∃ c', fn_Checker_binary_Ch N (nI (kap k)) (nI p) c = some ((), c') ∧ MO fd lit lc c0 T sz C0 c' (bMade k a :: ws) (L ++ [(5, k, a)]) (C + bCost k a b) ∧ XE c c') ∧ (¬ (bAny k = true ∨ a = b) → ∃ c', fn_Checker_binary_Ch N (nI (kap k)) (nI p) c = some ((), c') ∧ Off c' 30 p ∧ XE c c') := by
  obtain ⟨v0, v1, v2, w0, w1, w2, w3⟩ := h.2.1
  have hX : Xc c (T + ws.length + 2) (sz + L.length) (C0 + C) := h.1
  obtain ⟨p1, p2⟩ := binary_C (N := N) (x := nI p) hk hX hz w2 v2 w0 v0
  constructor
  · intro q
    obtain ⟨c', a1, a2, a3, a4, a5⟩ := p1 q
    exact ⟨c', a1, h.op (by rw [← Nat.add_assoc]; exact a2) a3 a4 (bMade_in w1 w2).1 (bMade_in w1 w2).2 w3 rfl (fun row e => ⟨_, _, e, (fun z => absurd z (by simp)), (fun z => absurd z (by simp)), (fun z => absurd z (by simp)), (fun z => absurd z (by simp)), (fun z => absurd z (by simp)), fun _ => ⟨rfl, rfl, hk⟩, (fun z => absurd z (by simp)), (fun z => absurd z (by simp)), (fun z => absurd z (by simp)), by simp⟩), a5⟩
  · intro q
    obtain ⟨c', a1, a2, a3, a4⟩ := p2 q
    exact ⟨c', a1, ⟨a2, by decide, by decide, a3⟩, a4⟩
theorem MO.idx {a b : Nat} (h : MO fd lit lc c0 T sz C0 c (b :: a :: ws) L C) (hz : sz + L.length + 1 < 40000) : ∃ c', fn_Checker_index_Ch N c = some ((), c') ∧ MO fd lit lc c0 T sz C0 c' (1 :: ws) (L ++ [(3, a, 0)]) (C + max b a) ∧ XE c c' := by
  obtain ⟨v0, v1, v2, w0, w1, w2, w3⟩ := h.2.1
  have hX : Xc c (T + ws.length + 2) (sz + L.length) (C0 + C) := h.1
  obtain ⟨c', a1, a2, a3, a4, a5⟩ := index_C (N := N) hX hz w2 v2 w0 v0
  exact ⟨c', a1, h.op (by rw [← Nat.add_assoc]; exact a2) a3 a4 (by omega) (by omega) w3 rfl (fun row e => ⟨_, _, e, (fun z => absurd z (by simp)), (fun z => absurd z (by simp)), (fun z => absurd z (by simp)), fun _ => rfl, (fun z => absurd z (by simp)), (fun z => absurd z (by simp)), (fun z => absurd z (by simp)), (fun z => absurd z (by simp)), (fun z => absurd z (by simp)), by simp⟩), a5⟩
theorem MO.cho {w a b p : Nat} (h : MO fd lit lc c0 T sz C0 c (b :: a :: w :: ws) L C) (hz : sz + L.length + 1 < 40000) : (a = b → ∃ c', fn_Checker_choose_Ch N (nI p) c = some ((), c') ∧ MO fd lit lc c0 T sz C0 c' (a :: ws) (L ++ [(6, 0, 0)]) (C + max w a) ∧ XE c c') ∧ (a ≠ b → ∃ c', fn_Checker_choose_Ch N (nI p) c = some ((), c') ∧ Off c' 30 p ∧ XE c c') := by
  obtain ⟨u0, u1, u2, v0, v1, v2, w0, w1, w2, w3⟩ := h.2.1
  have hX : Xc c (T + ws.length + 3) (sz + L.length) (C0 + C) := h.1
  obtain ⟨p1, p2⟩ := choose_C (N := N) (x := nI p) hX hz w2 v2 u2 w0 v0 u0
  constructor
  · intro q
    obtain ⟨c', a1, a2, a3, a4, a5⟩ := p1 q
    exact ⟨c', a1, h.op (by rw [← Nat.add_assoc]; exact a2) a3 a4 v1 v2 w3 rfl (fun row e => ⟨_, _, e, (fun z => absurd z (by simp)), (fun z => absurd z (by simp)), (fun z => absurd z (by simp)), (fun z => absurd z (by simp)), (fun z => absurd z (by simp)), (fun z => absurd z (by simp)), fun _ => rfl, (fun z => absurd z (by simp)), (fun z => absurd z (by simp)), by simp⟩), a5⟩
  · intro q
    obtain ⟨c', a1, a2, a3, a4⟩ := p2 q
    exact ⟨c', a1, ⟨a2, by decide, by decide, a3⟩, a4⟩
theorem MO.rep {w n p : Nat} (h : MO fd lit lc c0 T sz C0 c (w :: ws) L C) (hz : sz + L.length + 1 < 40000) (hn : n < 65536) : ((n ≠ 0 ∧ n * w ≤ 64) → ∃ c', fn_Checker_repeat_Ch N (nI n) (nI p) c = some ((), c') ∧ MO fd lit lc c0 T sz C0 c' ((n * w) :: ws) (L ++ [(8, n, w)]) C ∧ XE c c') ∧ (¬ (n ≠ 0 ∧ n * w ≤ 64) → ∃ c', fn_Checker_repeat_Ch N (nI n) (nI p) c = some ((), c') ∧ Off c' 30 p ∧ XE c c') := by
  obtain ⟨w0, w1, w2, w3⟩ := h.2.1
  have hX : Xc c (T + ws.length + 1) (sz + L.length) (C0 + C) := h.1
  obtain ⟨p1, p2⟩ := repeat_C (N := N) (x := nI p) hX hz ⟨w1, w2⟩ hn w0
  constructor
  · intro q
    obtain ⟨c', a1, a2, a3, a4, a5⟩ := p1 q
    have : 1 ≤ n * w := Nat.mul_pos (by omega) w1
    exact ⟨c', a1, h.op a2 a3 a4 this q.2 w3 rfl (fun row e => ⟨_, _, e, (fun z => absurd z (by simp)), (fun z => absurd z (by simp)), (fun z => absurd z (by simp)), (fun z => absurd z (by simp)), (fun z => absurd z (by simp)), (fun z => absurd z (by simp)), (fun z => absurd z (by simp)), (fun z => absurd z (by simp)), fun _ => ⟨rfl, rfl⟩, by simp⟩), a5⟩
  · intro q
    obtain ⟨c', a1, a2, a3, a4⟩ := p2 q
    exact ⟨c', a1, ⟨a2, by decide, by decide, a3⟩, a4⟩
/-- sums in braces -/
def MJ (fd : Nat) (lit : Nat → Int64) (lc : Nat) (c0 : ms) (T sz C0 : Nat) (c : ms) (u : Nat) (ws : List Nat) (L : List aop) (C : Nat) : Prop :=
  Xc c (T + ws.length + 1) (sz + L.length) (C0 + C) ∧ wsR (c.1 238) T ws ∧ (∀ k, k < T → c.1 238 k = c0.1 238 k) ∧ (∀ k, k < sz → c.2 336 k = c0.2 336 k) ∧ (cEnc (c.2 336) fd lit lc sz L ∧ Hk 900 L T (T + ws.length + 1)) ∧ c.1 238 (T + ws.length) = nI (cap28 u)
theorem MO.toMJ {w : Nat} (h : MO fd lit lc c0 T sz C0 c (w :: ws) L C) : MJ fd lit lc c0 T sz C0 c w ws L C := by
  obtain ⟨a1, ⟨w0, w1, w2, w3⟩, a3, a4, a5⟩ := h
  exact ⟨a1, w3, a3, a4, a5, by rw [w0]; congr 1; unfold cap28; omega⟩
theorem MJ.mono {c' : ms} {u : Nat} {ks js : List Nat} (h : MJ fd lit lc c0 T sz C0 c u ws L C) (e : Eb ks js c c') (hk : 242 ∉ ks ∧ 239 ∉ ks ∧ 337 ∉ ks ∧ 241 ∉ ks) (hk2 : 238 ∉ ks) (hj : 336 ∉ js) (h2 : c'.1 217 0 = nI 0) : MJ fd lit lc c0 T sz C0 c' u ws L C := by
  obtain ⟨a1, a2, a3, a4, a5, a6⟩ := h
  exact ⟨a1.mono e hk h2, by rw [e.1 238 hk2]; exact a2, by rw [e.1 238 hk2]; exact a3, by rw [e.2 336 hj]; exact a4, by rw [e.2 336 hj]; exact a5, by rw [e.1 238 hk2]; exact a6⟩
/-- an exp within braces, and its op -/
theorem MJ.join {c1 : ms} {u b C2 : Nat} {L2 : List aop} (h : MJ fd lit lc c0 T sz C0 c u ws L C) (g : MO fd lit lc c (T + ws.length + 1) (sz + L.length) (C0 + C) c1 [b] L2 C2) (hz : sz + L.length + L2.length + 1 < 40000) : ∃ c', fn_Checker_join_Ch N c1 = some ((), c') ∧ MJ fd lit lc c0 T sz C0 c' (u + b) ws (L ++ L2 ++ [(7, b, 0)]) (C + C2) ∧ XE c1 c' := by
  obtain ⟨a1, a2, a3, a4, ⟨a5, a7⟩, a6⟩ := h
  obtain ⟨b1, ⟨v0, v1, v2, -⟩, b3, b4, b5, b6⟩ := g
  have hX : Xc c1 (T + ws.length + 2) (sz + L.length + L2.length) (C0 + C + C2) := b1
  have v0' : c1.1 238 (T + ws.length + 1) = nI b := v0
  obtain ⟨c', d1, d2, d3, d4, d5⟩ := join_C (N := N) (a := u) hX hz v2 (by rw [b3 _ (by omega)]; exact a6) v0'
  refine ⟨c', d1, ⟨?_, ?_, fun k hk => by rw [d3, upd_ne (by omega), b3 k (by omega), a3 k hk], fun k hk => by rw [d4, updL_ne (by omega), b4 k (by omega), a4 k hk], ⟨?_, (a7.app b6).app (Hk.one' (h := T + ws.length) (by have := a1.2.2.2.1; omega) rfl)⟩, by rw [d3, upd_at]⟩, d5⟩
  · simpa [Nat.add_assoc] using d2
  · exact a2.mono (fun k hk => by rw [d3, upd_ne (by omega), b3 k (by omega)])
  · have e1 : ∀ k, k < sz + L.length + L2.length → c'.2 336 k = c1.2 336 k := fun k hk => by rw [d4, updL_ne (by omega)]
    refine cEnc.app (cEnc.app (a5.mono (fun k hk => by rw [e1 k (by omega), b4 k (by omega)])) (b5.mono (fun k hk => e1 k (by omega)))) (cEnc.one ?_)
    rw [List.length_append, ← Nat.add_assoc]
    exact ⟨44, nI b, by rw [d4, updL_at], (fun z => absurd z (by simp)), (fun z => absurd z (by simp)), (fun z => absurd z (by simp)), (fun z => absurd z (by simp)), (fun z => absurd z (by simp)), (fun z => absurd z (by simp)), (fun z => absurd z (by simp)), fun _ => ⟨rfl, rfl⟩, (fun z => absurd z (by simp)), by simp⟩
theorem MJ.brace {u p : Nat} (h : MJ fd lit lc c0 T sz C0 c u ws L C) (hu : 1 ≤ u) : (u ≤ 64 → ∃ c', fn_Checker_braces_Ch N (nI p) c = some ((), c') ∧ MO fd lit lc c0 T sz C0 c' (u :: ws) L C ∧ XE c c') ∧ (64 < u → ∃ c', fn_Checker_braces_Ch N (nI p) c = some ((), c') ∧ Off c' 30 p ∧ XE c c') := by
  obtain ⟨a1, a2, a3, a4, a5, a6⟩ := h
  obtain ⟨p1, p2⟩ := braces_C (N := N) (x := nI p) a1 a6
  constructor
  · intro q
    obtain ⟨c', d1, d2, d3, d4, d5⟩ := p1 q
    refine ⟨c', d1, ⟨d2, ⟨by rw [d3, upd_at], hu, q, a2.mono (fun k hk => by rw [d3, upd_ne (by omega)])⟩, fun k hk => by rw [d3, upd_ne (by omega), a3 k hk], fun k hk => by rw [d4, a4 k hk], by rw [d4]; exact a5⟩, d5⟩
  · intro q
    obtain ⟨c', d1, d2, d3, d4⟩ := p2 q
    exact ⟨c', d1, ⟨d2, by decide, by decide, d3⟩, d4⟩
end CMO
