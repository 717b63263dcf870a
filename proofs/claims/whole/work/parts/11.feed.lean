/-! feed and end. -/
/-- the byte of a word that lies at a shift, as the class and as the reference cut it -/
def cbyte (w sh : Int32) : Int32 := vp_nar .byte (((Int32.toInt8 (((Int32.toUInt32 w >>> (Int32.toUInt32 sh &&& Int32.toUInt32 31)).toInt32))).toInt32))
def mbyte (w sh : Int32) : Int32 := vp_nar .byte (((Int32.toInt8 (((w : Int32) >>> (sh &&& 31)))).toInt32))
theorem cm_byte (w : Int32) : cbyte w 24 = mbyte w 24 ∧ cbyte w 16 = mbyte w 16 ∧ cbyte w 8 = mbyte w 8 ∧ cbyte w 0 = mbyte w 0 := by
  have key : ∀ (w : BitVec 32) (n : Nat), n ≤ 24 → (w >>> n).setWidth 8 = (w.sshiftRight n).setWidth 8 := by
    intro w n hn
    apply BitVec.eq_of_getLsbD_eq
    intro i hi
    simp only [BitVec.getLsbD_setWidth, hi, decide_true, Bool.true_and, BitVec.getLsbD_ushiftRight, BitVec.getLsbD_sshiftRight]
    rw [if_pos (by omega)]
    simp
    omega
  have k8 : ∀ (x y : Int32), x.toBitVec.setWidth 8 = y.toBitVec.setWidth 8 → x.toInt8 = y.toInt8 := by
    intro x y h
    apply Int8.toBitVec_inj.mp
    rw [Int32.toBitVec_toInt8, Int32.toBitVec_toInt8, BitVec.signExtend_eq_setWidth_of_le _ (by decide), BitVec.signExtend_eq_setWidth_of_le _ (by decide)]
    exact h
  refine ⟨?_, ?_, ?_, ?_⟩ <;> unfold cbyte mbyte <;> congr 2 <;> apply k8
  · exact key w.toBitVec 24 (by decide)
  · exact key w.toBitVec 16 (by decide)
  · exact key w.toBitVec 8 (by decide)
  · exact key w.toBitVec 0 (by decide)
/-- a row behind which something is written -/
def rput (f : Nat → Int32) (n m : Nat) (b : Nat → Int32) : Nat → Int32 := fun i => if n ≤ i ∧ i < n + m then b (i - n) else f i
theorem rput_s (f : Nat → Int32) (n m : Nat) (b : Nat → Int32) : upd (rput f n m b) (n + m) (b m) = rput f n (m + 1) b := by
  funext i
  simp only [upd, rput]
  by_cases h : i = n + m
  · subst h
    rw [if_pos rfl, if_pos ⟨by omega, by omega⟩, Nat.add_sub_cancel_left]
  · rw [if_neg h]
    by_cases h2 : n ≤ i ∧ i < n + m
    · rw [if_pos h2, if_pos ⟨h2.1, by omega⟩]
    · rw [if_neg h2, if_neg (by omega)]
theorem rput_0 (f : Nat → Int32) (n : Nat) (b : Nat → Int32) : rput f n 0 b = f := by
  funext i
  exact if_neg (by omega)
theorem cap_step {N m n : Nat} {w sh : Int32} {s : ms} (h : s.1 200 0 = nI n) (hn : n < 65536) (hsh : ¬ sh < 0) : hd_C_append_C_14 N (m + 1) w sh s = hd_C_append_C_14 N m w (sh + (-8)) (upI (upI s 307 (upd (s.1 307) n (cbyte w sh))) 200 (fun _ => nI (n + 1))) := by
  show bd_C_append_C_14 N (hd_C_append_C_14 N m) w sh s = _
  unfold bd_C_append_C_14
  rw [if_neg hsh, h, if_neg (show ¬ (65536 : Int32) ≤ nI n from nI_ge (b := 65536) hn (by decide)), if_neg (nI_in hn (by omega)), nI_clamp (by omega), nI_1]
  rfl
def cword (w : Int32) (k : Nat) : Int32 := cbyte w (if k = 0 then 24 else if k = 1 then 16 else if k = 2 then 8 else 0)
theorem cap_word {N n : Nat} {w : Int32} {s : ms} (hN : 5 ≤ N) (h : s.1 200 0 = nI n) (hn : n + 4 ≤ 65536) : ∃ t : ms, fn_C_append_C N w s = some ((), t) ∧ t.1 200 0 = nI (n + 4) ∧ t.1 307 = rput (s.1 307) n 4 (cword w) ∧ Eb [200, 307] [] s t := by
  obtain ⟨m, rfl⟩ : ∃ m, N = m + 5 := ⟨N - 5, by omega⟩
  unfold fn_C_append_C
  rw [cap_step h (by omega) (by decide), cap_step (n := n + 1) rfl (by omega) (by decide), cap_step (n := n + 2) rfl (by omega) (by decide), cap_step (n := n + 3) rfl (by omega) (by decide)]
  refine ⟨_, rfl, rfl, ?_, ?_⟩
  · have e0 := rput_s (s.1 307) n 0 (cword w)
    have e1 := rput_s (s.1 307) n 1 (cword w)
    have e2 := rput_s (s.1 307) n 2 (cword w)
    have e3 := rput_s (s.1 307) n 3 (cword w)
    rw [rput_0] at e0
    show upd (upd (upd (upd (s.1 307) n (cbyte w 24)) (n + 1) (cbyte w 16)) (n + 2) (cbyte w 8)) (n + 3) (cbyte w 0) = _
    rw [← e3, ← e2, ← e1, ← e0]
    rfl
  · exact (((((((Eb.rfl.upI (by decide)).upI (by decide)).upI (by decide)).upI (by decide)).upI (by decide)).upI (by decide)).upI (by decide)).upI (by decide)
/-- what the class's feed writes: byte k of five words -/
def fword (v1 v2 v3 v4 v5 : Int32) (k : Nat) : Int32 := if k < 4 then cword v1 k else if k < 8 then cword v2 (k - 4) else if k < 12 then cword v3 (k - 8) else if k < 16 then cword v4 (k - 12) else cword v5 (k - 16)
theorem rput_app (f : Nat → Int32) (n a b : Nat) (g1 g2 g : Nat → Int32) (h1 : ∀ k, k < a → g k = g1 k) (h2 : ∀ k, k < b → g (a + k) = g2 k) : rput (rput f n a g1) (n + a) b g2 = rput f n (a + b) g := by
  funext i
  simp only [rput]
  by_cases c1 : n + a ≤ i ∧ i < n + a + b
  · rw [if_pos c1, if_pos ⟨by omega, by omega⟩, ← h2 _ (by omega)]
    congr 1; omega
  · rw [if_neg c1]
    by_cases c2 : n ≤ i ∧ i < n + a
    · rw [if_pos c2, if_pos ⟨by omega, by omega⟩, h1 _ (by omega)]
    · rw [if_neg c2, if_neg (by omega)]
theorem feed_C {N n : Nat} {v1 v2 v3 v4 v5 : Int32} {s : ms} (hN : 5 ≤ N) (h : s.1 200 0 = nI n) (hn : n + 20 ≤ 65536) : ∃ t : ms, fn_C_feed_C N v1 v2 v3 v4 v5 s = some (nI (n + 20), t) ∧ t.1 200 0 = nI (n + 20) ∧ t.1 307 = rput (s.1 307) n 20 (fword v1 v2 v3 v4 v5) ∧ Eb [200, 307] [] s t := by
  obtain ⟨t1, a1, b1, c1, d1⟩ := cap_word (w := v1) hN h (by omega)
  obtain ⟨t2, a2, b2, c2, d2⟩ := cap_word (w := v2) hN b1 (by omega)
  obtain ⟨t3, a3, b3, c3, d3⟩ := cap_word (w := v3) hN b2 (by omega)
  obtain ⟨t4, a4, b4, c4, d4⟩ := cap_word (w := v4) hN b3 (by omega)
  obtain ⟨t5, a5, b5, c5, d5⟩ := cap_word (w := v5) hN b4 (by omega)
  refine ⟨t5, ?_, b5, ?_, (((d1.trans d2).trans d3).trans d4).trans d5⟩
  · unfold fn_C_feed_C
    rw [h, show (20 : Int32) = nI 20 from rfl, nI_add, if_pos (show nI (n + 20) ≤ (65536 : Int32) from nI_le hn (by decide)), ex_bind a1, ex_bind a2, ex_bind a3, ex_bind a4, ex_bind a5, b5]
  · rw [c5, c4, c3, c2, c1]
    rw [rput_app (s.1 307) n 4 4 _ _ (fword v1 v2 v3 v4 v5) (fun k hk => by simp only [fword, if_pos hk]) (fun k hk => by simp only [fword]; rw [if_neg (by omega), if_pos (by omega), Nat.add_sub_cancel_left])]
    rw [rput_app (s.1 307) n 8 4 _ _ (fword v1 v2 v3 v4 v5) (fun k hk => rfl) (fun k hk => by simp only [fword]; rw [if_neg (by omega), if_neg (by omega), if_pos (by omega), Nat.add_sub_cancel_left])]
    rw [rput_app (s.1 307) n 12 4 _ _ (fword v1 v2 v3 v4 v5) (fun k hk => rfl) (fun k hk => by simp only [fword]; rw [if_neg (by omega), if_neg (by omega), if_neg (by omega), if_pos (by omega), Nat.add_sub_cancel_left])]
    rw [rput_app (s.1 307) n 16 4 _ _ (fword v1 v2 v3 v4 v5) (fun k hk => rfl) (fun k hk => by simp only [fword]; rw [if_neg (by omega), if_neg (by omega), if_neg (by omega), if_neg (by omega), Nat.add_sub_cancel_left])]
/-- the same bytes, as the reference cuts them -/
theorem fword_m (v1 v2 v3 v4 v5 : Int32) (k : Nat) (hk : k < 20) : mbyte (if k < 4 then v1 else if k < 8 then v2 else if k < 12 then v3 else if k < 16 then v4 else v5) (24 - (8 * (nI k - nI k / 4 * 4))) = fword v1 v2 v3 v4 v5 k := by
  rcases (show k = 0 ∨ k = 1 ∨ k = 2 ∨ k = 3 ∨ k = 4 ∨ k = 5 ∨ k = 6 ∨ k = 7 ∨ k = 8 ∨ k = 9 ∨ k = 10 ∨ k = 11 ∨ k = 12 ∨ k = 13 ∨ k = 14 ∨ k = 15 ∨ k = 16 ∨ k = 17 ∨ k = 18 ∨ k = 19 by omega) with rfl | rfl | rfl | rfl | rfl | rfl | rfl | rfl | rfl | rfl | rfl | rfl | rfl | rfl | rfl | rfl | rfl | rfl | rfl | rfl
  · exact (cm_byte v1).1.symm
  · exact (cm_byte v1).2.1.symm
  · exact (cm_byte v1).2.2.1.symm
  · exact (cm_byte v1).2.2.2.symm
  · exact (cm_byte v2).1.symm
  · exact (cm_byte v2).2.1.symm
  · exact (cm_byte v2).2.2.1.symm
  · exact (cm_byte v2).2.2.2.symm
  · exact (cm_byte v3).1.symm
  · exact (cm_byte v3).2.1.symm
  · exact (cm_byte v3).2.2.1.symm
  · exact (cm_byte v3).2.2.2.symm
  · exact (cm_byte v4).1.symm
  · exact (cm_byte v4).2.1.symm
  · exact (cm_byte v4).2.2.1.symm
  · exact (cm_byte v4).2.2.2.symm
  · exact (cm_byte v5).1.symm
  · exact (cm_byte v5).2.1.symm
  · exact (cm_byte v5).2.2.1.symm
  · exact (cm_byte v5).2.2.2.symm
theorem mfeed_step {N m n k : Nat} {v1 v2 v3 v4 v5 : Int32} {s : ms} (h : s.1 88 0 = nI n) (hn : n + 20 ≤ 65536) (hk : k < 20) : hd_M_feed_36 N (m + 1) v1 v2 v3 v4 v5 (nI k) s = hd_M_feed_36 N m v1 v2 v3 v4 v5 (nI (k + 1)) (upI s 1 (upd (s.1 1) (n + k) (fword v1 v2 v3 v4 v5 k))) := by
  show bd_M_feed_36 N (hd_M_feed_36 N m) v1 v2 v3 v4 v5 (nI k) s = _
  have key : ∀ w : Int32, mbyte w (24 - (8 * (nI k - nI k / 4 * 4))) = fword v1 v2 v3 v4 v5 k → bk_M_feed_89 N (hd_M_feed_36 N m) v1 v2 v3 v4 v5 (nI k) w s = hd_M_feed_36 N m v1 v2 v3 v4 v5 (nI (k + 1)) (upI s 1 (upd (s.1 1) (n + k) (fword v1 v2 v3 v4 v5 k))) := by
    intro w hw
    unfold bk_M_feed_89
    rw [h, nI_add, if_neg (nI_in (show n + k < 65536 by omega) (by decide)), nI_clamp (by omega), nI_1]
    rw [← hw]
    rfl
  have hw := fword_m v1 v2 v3 v4 v5 k hk
  unfold bd_M_feed_36
  rw [if_neg (show ¬ (20 : Int32) ≤ nI k from nI_ge hk (by decide))]
  by_cases c1 : k < 4
  · rw [if_neg (show ¬ (4 : Int32) ≤ nI k from nI_ge c1 (by decide))]
    rw [if_pos c1] at hw; exact key _ hw
  rw [if_pos (show (4 : Int32) ≤ nI k from nI_le (a := 4) (by omega) (by omega))]
  rw [if_neg c1] at hw
  by_cases c2 : k < 8
  · rw [if_neg (show ¬ (8 : Int32) ≤ nI k from nI_ge c2 (by decide))]
    rw [if_pos c2] at hw; exact key _ hw
  rw [if_pos (show (8 : Int32) ≤ nI k from nI_le (a := 8) (by omega) (by omega))]
  rw [if_neg c2] at hw
  by_cases c3 : k < 12
  · rw [if_neg (show ¬ (12 : Int32) ≤ nI k from nI_ge c3 (by decide))]
    rw [if_pos c3] at hw; exact key _ hw
  rw [if_pos (show (12 : Int32) ≤ nI k from nI_le (a := 12) (by omega) (by omega))]
  rw [if_neg c3] at hw
  by_cases c4 : k < 16
  · rw [if_neg (show ¬ (16 : Int32) ≤ nI k from nI_ge c4 (by decide))]
    rw [if_pos c4] at hw; exact key _ hw
  rw [if_pos (show (16 : Int32) ≤ nI k from nI_le (a := 16) (by omega) (by omega))]
  rw [if_neg c4] at hw
  exact key _ hw
theorem mfeed_loop {N n : Nat} {v1 v2 v3 v4 v5 : Int32} (hn : n + 20 ≤ 65536) : ∀ (j k m : Nat) (s : ms) (f : Nat → Int32), k + j = 20 → s.1 88 0 = nI n → s.1 1 = rput f n k (fword v1 v2 v3 v4 v5) → ∃ t : ms, hd_M_feed_36 N (m + j + 1) v1 v2 v3 v4 v5 (nI k) s = some (nI (n + 20), t) ∧ t.1 88 0 = nI (n + 20) ∧ t.1 1 = rput f n 20 (fword v1 v2 v3 v4 v5) ∧ Eb [1, 88] [] s t := by
  intro j
  induction j with
  | zero =>
    intro k m s f hk h1 h2
    obtain rfl : k = 20 := by omega
    refine ⟨upI s 88 (fun _ => nI (n + 20)), ?_, rfl, h2, Eb.rfl.upI (by decide)⟩
    show bd_M_feed_36 N (hd_M_feed_36 N (m + 0)) v1 v2 v3 v4 v5 (nI 20) s = _
    unfold bd_M_feed_36
    rw [if_pos (by decide), h1, show (20 : Int32) = nI 20 from rfl, nI_add]
  | succ j ih =>
    intro k m s f hk h1 h2
    rw [show m + (j + 1) + 1 = (m + j + 1) + 1 by omega, mfeed_step h1 hn (by omega)]
    obtain ⟨t, a, b, c, d⟩ := ih (k + 1) m (upI s 1 (upd (s.1 1) (n + k) (fword v1 v2 v3 v4 v5 k))) f (by omega) h1 (by rw [upI_at, h2, rput_s])
    exact ⟨t, a, b, c, (Eb.rfl.upI (by decide)).trans d⟩
theorem feed_M {N n : Nat} {v1 v2 v3 v4 v5 : Int32} {s : ms} (hN : 21 ≤ N) (h : s.1 88 0 = nI n) (hn : n + 20 ≤ 65536) : ∃ t : ms, fn_M_feed N v1 v2 v3 v4 v5 s = some (nI (n + 20), t) ∧ t.1 0 0 = 0 ∧ t.1 88 0 = nI (n + 20) ∧ t.1 1 = rput (s.1 1) n 20 (fword v1 v2 v3 v4 v5) ∧ Eb [0, 1, 88] [] s t := by
  obtain ⟨m, rfl⟩ : ∃ m, N = m + 20 + 1 := ⟨N - 21, by omega⟩
  obtain ⟨t, a, b, c, d⟩ := mfeed_loop (N := m + 20 + 1) (v1 := v1) (v2 := v2) (v3 := v3) (v4 := v4) (v5 := v5) hn 20 0 m (upI s 0 (fun _ => 0)) (s.1 1) rfl h (by rw [rput_0]; rfl)
  refine ⟨t, ?_, ?_, b, c, (Eb.rfl.upI (by decide)).trans (d.mono (by decide) (by decide))⟩
  · unfold fn_M_feed bk_M_feed_21
    rw [h, show (20 : Int32) = nI 20 from rfl, nI_add, if_pos (show nI (n + 20) ≤ (65536 : Int32) from nI_le hn (by decide)), if_pos (by decide)]
    exact a
  · rw [d.1 0 (by decide)]; rfl
theorem end_C {N n : Nat} {v : Int32} {s : ms} (h : s.1 200 0 = nI n) (hn : n < 2 ^ 31) : (∃ k : Nat, k ≤ n ∧ v = nI k ∧ tx_C_end_C N v s = none ∧ fn_C_end_C N v s = some ((), upI s 200 (fun _ => nI k))) ∨ tx_C_end_C N v s = some 1 ∧ (v < 0 ∨ ¬ v ≤ nI n) := by
  by_cases c1 : v < 0
  · right
    refine ⟨?_, Or.inl c1⟩
    unfold tx_C_end_C bx_C_end_C_12
    rw [if_pos c1]
  · by_cases c2 : v ≤ nI n
    · left
      obtain ⟨k, hk, rfl⟩ := nI_of c1
      refine ⟨k, (nI_leI hk hn).mp c2, rfl, ?_, ?_⟩
      · unfold tx_C_end_C; rw [if_neg c1, h, if_pos c2]
      · unfold fn_C_end_C; rw [if_neg c1, h, if_pos c2]
    · right
      refine ⟨?_, Or.inr c2⟩
      unfold tx_C_end_C bx_C_end_C_12
      rw [if_neg c1, h, if_neg c2]
