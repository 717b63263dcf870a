/-! find: what stands, as names and paths; the law. -/
/-- how long a token is -/
def LN (ch : Nat → Nat) (n t : Nat) : Nat := enL (tks ch n (n + 1) 0) t - PL ch n t
section FIND4
variable {ch wd : Nat → Nat} {n N0 i t : Nat} {A : ds} {lit : Nat → Int64} {lc sz la nc cl nl : Nat} {od or : List Nat} {c s : ms}
theorem word_W {s : ms} (h : Src s n ch) {k : Nat} (hi : k < NT ch n) (hk : TK ch n k = 400) : Wd ch n (PL ch n k) (LN ch n k) ∧ LN ch n k = wend ch n (PL ch n k) - PL ch n k ∧ PL ch n k + LN ch n k = enL (tks ch n (n + 1) 0) k := by
  obtain ⟨h1, h2, h3⟩ := tks_ok h (n + 1) 0 (Nat.zero_le _) (by omega)
  have e1 := List.getElem?_eq_getElem hi
  obtain ⟨⟨b1, b2⟩, -⟩ := h3 k _ e1
  have ek : TK ch n k = ((tks ch n (n + 1) 0)[k]).1 := by unfold TK tkL; rw [e1]
  have ep : PL ch n k = ((tks ch n (n + 1) 0)[k]).2.1 := by unfold PL plL; rw [e1]
  have ee : enL (tks ch n (n + 1) 0) k = ((tks ch n (n + 1) 0)[k]).2.2 := by unfold enL; rw [e1]
  rw [ek] at hk
  unfold LN
  rw [ep, ee]
  generalize (tks ch n (n + 1) 0)[k] = e at *
  obtain ⟨kd', p, en'⟩ := e
  dsimp only at *
  rcases b2 with b2 | ⟨b2, b3⟩
  · omega
  · obtain ⟨-, -, o, -⟩ := tkind_or ch n p
    rw [b3] at o
    obtain ⟨o1, o2⟩ := o hk
    dsimp only at o2
    obtain ⟨i1, i2, i3⟩ := ff_in h (pni ch) (fun j q => by rw [pni, q]; rfl) b1
    have in0 : cinn (ch p) = true := by unfold cinn; rw [o1]; rfl
    have np : p ≠ ff (pni ch) n p := fun q => by
      rw [← q] at i3
      unfold pni at i3
      rw [in0] at i3
      cases i3
    rw [o2]
    refine ⟨⟨by omega, by omega, fun j hj => ?_, Or.inr ?_⟩, rfl, by omega⟩
    · have := ff_no (pni ch) n p (p + j) (by omega) (by omega)
      unfold pni at this
      cases q : cinn (ch (p + j)) with
      | true => rfl
      | false => rw [q] at this; cases this
    · rw [show p + (ff (pni ch) n p - p) = ff (pni ch) n p by omega]
      unfold pni at i3
      cases q : cinn (ch (ff (pni ch) n p)) with
      | false => rfl
      | true => unfold pni at q; rw [q] at i3; cases i3
def pr (A : ds) (y : Nat) : Nat := (topL A y).2.2.1
def im (A : ds) (y : Nat) : Nat := (topL A y).2.2.2
def iw (ch : Nat → Nat) (n : Nat) (A : ds) (y : Nat) : Nat × Nat := (PL ch n (A.1 11 (im A y)), LN ch n (A.1 11 (im A y)))
def sw (ch : Nat → Nat) (n : Nat) (A : ds) (x : Nat) : Nat × Nat := (PL ch n (A.1 0 (snm A (topL A) (topN A) x)), LN ch n (A.1 0 (snm A (topL A) (topN A) x)))
def ins (A : ds) (x : Nat) : Nat := (sgi A (topL A) (topN A) x).1
theorem itm_lt (hJ : JB A) (hL : Ly A (topL A) (topN A) (topS A)) {y : Nat} (h0 : 0 < y) (hy : y < topN A) : pr A y < y ∧ im A y < A.1 41 0 ∧ A.1 9 (im A y) = (topL A (pr A y)).1 ∧ ∃ j, j < itn A (topL A (pr A y)).1 ∧ y = pr A y + 1 + ofI A (topL A (pr A y)).1 j ∧ im A y = A.1 22 (topL A (pr A y)).1 + j := by
  obtain ⟨e1, j, e2, e3, e4⟩ := (hL.2.2.2 y hy).2.2.2.2.1 h0
  have e1 : pr A y < y := e1
  have m := (hL.2.2.2 (pr A y) (by omega)).1
  have q := hJ.item m e2
  have e4 : im A y = A.1 22 (topL A (pr A y)).1 + j := e4
  exact ⟨e1, by rw [e4]; exact q.2.2, by rw [e4]; exact q.1, j, e2, e3, e4⟩
theorem FS_of {m : Nat} (hm : m ≤ 12000) (hs : StP N0 n ch wd t A lit lc sz la nc cl nl od or c s) : FS ch m n (topN A) (topS A) (pr A) (iw ch n A) (sw ch n A) (ins A) (fun i => (topL A i).2.1) (fun i => own A (topL A i).1) := by
  have src := hs.src
  have ntl : NT ch n ≤ 12001 := (toks_T src hs.1.1).2.1
  obtain ⟨⟨n1, -, -⟩, hw, hG, ⟨hJ, hB, hWF, hL, -, -, -, hM⟩, -⟩ := hs
  have b := hB.2
  have uq : UQ wd A (A.1 41 0) := by
    obtain ⟨σ, -, -, g3, -⟩ := hG
    exact design_U (toks_V src) ntl g3
  refine ⟨⟨hm, n1, hM.2.1.2.2.2, hM.2.1.2.1, hL.1⟩, fun y h0 hy => ?_, fun x hx => ⟨?_, ?_⟩, fun y z y0 y1 z0 z1 hp hl hc => ?_, fun i hi => ⟨?_, fun x hx => ?_⟩⟩
  · obtain ⟨e1, e2, -⟩ := itm_lt hJ hL h0 hy
    have w := hWF.2.2.2.2.1 _ e2
    exact ⟨e1, (word_W src w.2.1 w.2.2).1⟩
  · have d := (rule_ok hJ hWF hL hx).2.2.2
    have w := hWF.2.1 _ d
    exact (word_W src w.1 w.2.1).1
  · exact (hM.in65 hL hx).2
  · obtain ⟨-, e2, e3, j, e4, e5, e6⟩ := itm_lt hJ hL y0 y1
    obtain ⟨-, f2, f3, j', f4, f5, f6⟩ := itm_lt hJ hL z0 z1
    have w := hWF.2.2.2.2.1 _ e2
    have v := hWF.2.2.2.2.1 _ f2
    have wy := word_W src w.2.1 w.2.2
    have wz := word_W src v.2.1 v.2.2
    have we : weq ch n (PL ch n (A.1 11 (im A y))) (PL ch n (A.1 11 (im A z))) := by
      refine ⟨?_, fun k hk => ?_⟩
      · rw [← wy.2.1, ← wz.2.1]
        exact hl
      · rw [← wz.2.1] at hk
        exact hc k (by show k < LN ch n (A.1 11 (im A y)); have hl : LN ch n (A.1 11 (im A y)) = LN ch n (A.1 11 (im A z)) := hl; omega)
    have ei := uq (im A y) (im A z) e2 f2 (by rw [e3, f3, hp]) ((hw _ _ w.2.1 v.2.1 w.2.2 v.2.2).mpr we)
    rw [← hp] at f5 f6
    have ej : j = j' := by rw [e6, f6] at ei; omega
    rw [e5, f5, ej]
  · have q := (hL.2.2.2 i hi).2.2.1
    have p := (hJ.sums (hL.2.2.2 i hi).1).2
    show (topL A i).2.1 + own A (topL A i).1 ≤ topS A
    omega
  · obtain ⟨i0, q, hi0, hq, rfl⟩ := hL.sig hx
    unfold ins
    rw [sgi_at hL hi0 hq]
    show i0 = i ↔ (topL A i).2.1 ≤ (topL A i0).2.1 + q ∧ (topL A i0).2.1 + q < (topL A i).2.1 + own A (topL A i).1
    rcases Nat.lt_trichotomy i0 i with z | z | z
    · have := hL.base z hi
      exact ⟨fun y => by omega, fun y => by omega⟩
    · subst z
      exact ⟨fun _ => ⟨by omega, by omega⟩, fun _ => rfl⟩
    · have := hL.base z hi0
      exact ⟨fun y => by omega, fun y => by omega⟩
theorem FM_of {T : Nat → Nat} {m : Nat} (hs : StP N0 n ch wd t A lit lc sz la nc cl nl od or c s) (h88 : s.1 88 0 = nI m) (hT : ∀ k, k < m → T k < 256 ∧ s.1 1 k = kch (T k)) : FM T ch m n (topN A) (topS A) (pr A) (iw ch n A) (sw ch n A) (ins A) (im A) (fun y => A.1 11 (im A y)) (snm A (topL A) (topN A)) (fun x => A.1 0 (snm A (topL A) (topN A) x)) s := by
  have src := hs.src
  have ntl : NT ch n ≤ 12001 := (toks_T src hs.1.1).2.1
  obtain ⟨⟨n1, c1, -⟩, -, -, ⟨hJ, hB, hWF, hL, -, -, -, hM⟩, -, -, -, w12, w13, -⟩ := hs
  have b := hB.2
  have row : ∀ k, k < NT ch n → TK ch n k = 400 → s.1 5 k = nI (PL ch n k) ∧ s.1 6 k = nI (PL ch n k + LN ch n k) := fun k hk h4 => by
    have e1 := List.getElem?_eq_getElem hk
    have := w13.2 k _ e1
    rw [Nat.zero_add] at this
    rw [(word_W src hk h4).2.2]
    unfold PL plL enL
    rw [e1]
    exact ⟨this.2.1, this.2.2⟩
  refine ⟨hM.2.1.1, h88, hT, fun k hk => ⟨c1 k hk, (w12 k hk).2⟩, fun y h0 hy => ?_, fun x hx => ?_⟩
  · obtain ⟨-, e2, -⟩ := itm_lt hJ hL h0 hy
    have w := hWF.2.2.2.2.1 _ e2
    have r := (hM.2.2.2.2.1 y hy).2.2.1 h0
    have q := row _ w.2.1 w.2.2
    exact ⟨r.1, r.2, by omega, (hM.2.2.2.1.1.2.2.1 _ e2).2, by have := w.2.1; show A.1 11 (im A y) < 65540; omega, q.1, q.2⟩
  · have d := (rule_ok hJ hWF hL hx).2.2.2
    have w := hWF.2.1 _ d
    have q := row _ w.1 w.2.1
    exact ⟨(hM.in65 hL hx).1, hM.nm hL hx, by omega, (hM.2.2.2.1.1.2.1 _ d).1, by have := w.1; show A.1 0 (snm A (topL A) (topN A) x) < 65540; omega, q.1, q.2⟩
theorem FC_of {T : Nat → Nat} {m N : Nat} (hs : StP N0 n ch wd t A lit lc sz la nc cl nl od or c s) (h200 : c.1 200 0 = nI m) (hT : ∀ k, k < m → T k < 256 ∧ c.1 307 k = kch (T k)) : FC N T ch m n (topN A) (topS A) (pr A) (iw ch n A) (sw ch n A) (fun i => (topL A i).2.1) (fun i => own A (topL A i).1) (im A) c := by
  obtain ⟨⟨n1, c1, -⟩, -, -, ⟨hJ, hB, hWF, hL, -, -, hC, -⟩, -, ⟨w8, w9, -⟩, -⟩ := hs
  have b := hB.2
  refine ⟨⟨hC.2.2.1.1, hC.2.2.1.2.2.1, h200, w8⟩, hT, fun k hk => ⟨c1 k hk, w9 k hk⟩, fun y h0 hy => ?_, fun x hx => placeOf_C hJ hB hWF hL hC hx, fun i hi => ?_⟩
  · obtain ⟨e1, e2, -⟩ := itm_lt hJ hL h0 hy
    have e1 : (topL A y).2.2.1 < topN A := by have : (topL A y).2.2.1 < y := e1; omega
    have r := (hC.2.1.1 y hy (Or.inr e1)).2.2 h0
    exact ⟨r.1, r.2, by omega, (hC.1.2.2.2.1 _ e2).2.1⟩
  · have r := hC.2.1.1 i hi (by
      by_cases z : i = 0
      · exact Or.inl z
      · obtain ⟨e1, -⟩ := itm_lt hJ hL (y := i) (by omega) hi
        have e1 : (topL A i).2.2.1 < i := e1
        exact Or.inr (by omega))
    have r345 : c.1 345 i = nI (topL A i).1 := r.1
    exact ⟨r.2.1, by rw [r345]; exact ownS_Cc hJ hB hC (hL.2.2.2 i hi).1⟩
theorem find_S (hN : 70000 < N0) (hi : i < 512) (h : Rl N0 i c s) (o : Nat → Int64) : ∃ (k : Int32) (c2 : ms) (o2 : Nat → Int64) (b : Int32) (s2 : ms), hp_find (N0 + 1) c o = some (k, c2, o2) ∧ fn_M_find (N0 + 1) s = some (b, s2) ∧ s2.1 0 0 = k ∧ (k = 0 → o2 0 = Int32.toInt64 b) ∧ Rl N0 (i + 1) c2 s2 := by
  rcases h.2.2.2 with ⟨x1, x2⟩ | ⟨x1, x2, n, ch, wd, t, A, lit, lc, sz, la, nc, cl, nl, od, or, hs⟩
  · refine ⟨1, c, o, 0, upI s 0 (fun _ => 1), ?_, ?_, rfl, fun z => absurd z (by decide), h.thr⟩
    · unfold hp_find tx_C_find_C
      rw [if_pos x1]
      rfl
    · unfold fn_M_find bk_M_find_13
      rw [if_pos x2, if_neg (by decide)]
  · obtain ⟨m, T, m1, m2, m3, m4, m5⟩ := h.1.txt
    have fs := FS_of (m := m) (by omega) hs
    have fc := FC_of (T := T) (N := N0 + 1) hs m2 (fun k hk => ⟨(m4 k hk).1, (m4 k hk).2.1⟩)
    have fm := FM_of (T := T) hs m3 (fun k hk => ⟨(m4 k hk).1, (m4 k hk).2.2⟩)
    have es : Eb [0] [] s (upI s 0 (fun _ => 0)) := Eb.rfl.upI (by decide)
    have fm0 : FM T ch m n (topN A) (topS A) (pr A) (iw ch n A) (sw ch n A) (ins A) (im A) (fun y => A.1 11 (im A y)) (snm A (topL A) (topN A)) (fun x => A.1 0 (snm A (topL A) (topN A) x)) (upI s 0 (fun _ => 0)) := by
      unfold FM at *
      rw [es.1 63 (by decide), es.1 88 (by decide), es.1 1 (by decide), es.1 90 (by decide), es.1 59 (by decide), es.1 60 (by decide), es.1 29 (by decide), es.1 5 (by decide), es.1 6 (by decide), es.1 65 (by decide), es.1 64 (by decide), es.1 19 (by decide)]
      exact fm
    have tn := fs.1.2.2.2.1
    obtain ⟨r, a1, a2⟩ := seek_C (N := N0 + 1) fs (by omega) fc m 0 0 0 (N0 + 1) (by omega) (by omega) (Nat.le_refl _) fs.1.2.2.2.2 Pt.zero (fun y hy q => by
      rcases q.inv with ⟨z, -⟩ | ⟨-, a', -, z, -⟩
      · exact z
      · omega) (fun z z1 z2 => absurd z2 (Nat.not_lt_zero _))
    obtain ⟨r', s1, b1, b2, b3⟩ := find_M (N := N0 + 1) fs (by omega) (topS A) 0 (N0 + 1) (upI s 0 (fun _ => 0)) (by omega) (by omega) fm0 (fun x hx => absurd hx (Nat.not_lt_zero _))
    obtain rfl := a2.uniq b3
    have e1 : Eb [0, 74, 88] [] s (upI s1 88 (fun _ => 0)) := ((es.mono (by decide) (by decide)).trans (b2.mono (by decide) (by decide))).upI (by decide)
    refine ⟨0, upI c 200 (fun _ => 0), vp_updL o 0 (Int32.toInt64 r), r, upI s1 88 (fun _ => 0), ?_, ?_, ?_, fun _ => updL_at _ _ _, h.tape (Eb.rfl.upI (by decide)) (e1.mono (by decide) (by decide)) ⟨0, Nat.zero_le _, rfl, rfl, fun k hk => absurd hk (Nat.not_lt_zero _)⟩⟩
    · unfold hp_find tx_C_find_C fn_C_find_C fn_Circuit_seek_Cc_307
      rw [if_neg (c208 x1), if_neg (c208 x1), m2]
      dsimp only
      rw [show hd_Circuit_seek_Cc_307_8 (N0 + 1) (N0 + 1) (nI m) 0 0 0 c = hd_Circuit_seek_Cc_307_8 (N0 + 1) (N0 + 1) (nI m) (nI 0) (nI 0) (nI 0) c from rfl, a1, obind, obind]
    · unfold fn_M_find bk_M_find_13
      rw [if_neg (s54 x2), if_pos (by decide)]
      exact b1
    · show s1.1 0 0 = 0
      rw [b2.1 0 (by decide)]
      rfl
end FIND4
/-- before the first call -/
theorem Rl0 {N0 : Nat} : Rl N0 0 dc_z0 dc_z1 := ⟨⟨0, Nat.le_refl _, rfl, rfl, fun k hk => absurd hk (Nat.not_lt_zero _)⟩, rfl, ⟨fun _ _ => rfl, ⟨0, 0, 4096, 256, rfl, by decide, by decide, by decide, rfl, by decide, by decide, by decide⟩, rfl⟩, Or.inl ⟨rfl, rfl⟩⟩
/-- every script: the law says true -/
theorem law_all {N0 : Nat} (hN : 20000000 < N0) (xs : Nat → Int32) (L : Nat) (hL : L ≤ 3072) : lw1_loop (N0 + 1) xs L 514 0 dc_z0 dc_z1 (fun _ => 0) = some 1 := by
  have := law_ind (N0 + 1) (Rl N0)
    (fun i sc sm _ h => ⟨h.1.keep (by omega) (Eb.rfl (ks := []) (js := [])) (Eb.rfl (ks := []) (js := [])) (by decide) (by decide), h.2⟩)
    (fun i sc sm o v1 v2 v3 v4 v5 hi h => feed_R (by omega) hi h o v1 v2 v3 v4 v5)
    (fun i sc sm o v1 hi h => end_R hi h o v1)
    (fun i sc sm hi h => read_R hN hi h)
    (fun i sc sm _ h => fault_R h)
    (fun i sc sm o v1 _ h => count_S h o v1)
    (fun i sc sm o hi h => find_S (by omega) hi h o)
    (fun i sc sm o v1 v2 _ h => signal_S h o v1 v2)
    (fun i sc sm o _ h => reset_S (by omega) h o)
    (fun i sc sm o v1 v2 _ h => set_S (by omega) h o v1 v2)
    (fun i sc sm o _ h => step_S (by omega) h o)
    (fun i sc sm o v1 _ h => value_S (by omega) h o v1)
    (fun i sc sm o _ h => failing_S (by omega) h o)
    xs L hL 514 0 dc_z0 dc_z1 (fun _ => 0) Rl0 (by omega) (by omega)
  exact this
