/-! The class's tables against those of a design. -/
def srt (k : Nat) : Nat := if k = 0 then 0 else if k = 1 ∨ k = 3 then 1 else 2
def CLr (c : ms) (sz fd : Nat) (lit : Nat → Int64) (lc r1 r2 i : Nat) (L : List aop) : Prop := ∃ a, c.1 r1 i = nI a ∧ c.1 r2 i = nI (a + L.length) ∧ a + L.length ≤ sz ∧ cEnc (c.2 336) fd lit lc a L
def Ck (A : ds) (I K : Nat) (c : ms) : Prop := c.1 321 0 = nI (A.1 40 0) ∧ c.1 328 0 = nI I ∧ c.1 332 0 = nI K ∧ c.1 317 0 = nI (A.1 45 0) ∧ c.1 233 0 = nI (A.1 21 (A.1 46 0)) ∧ c.1 309 0 = nI (A.1 46 0 + 1)
def Cnm (pl wd : Nat → Nat) (A : ds) (c : ms) : Prop := ∀ d, d < A.1 40 0 → c.1 322 d = nI (pl (A.1 0 d)) ∧ c.1 323 d = nI (A.1 1 d) ∧ c.1 324 d = nI (srt (A.1 2 d)) ∧ c.2 325 d = lN (A.1 3 d) ∧ c.1 237 d = nI (wd (A.1 0 d))
def Cdr (A : ds) (c : ms) (sz : Nat) (lit : Nat → Int64) (lc : Nat) : Prop := ∀ d, d < A.1 40 0 → (dDrv A d = true → (A.1 4 d = 0 → c.1 326 d = -1) ∧ (A.1 4 d = 1 → CLr c sz (A.1 35 d) lit lc 326 327 d (A.2.1 0 d)) ∧ (A.1 4 d = 2 → ∃ a, a ≤ sz ∧ c.1 326 d = nI a ∧ c.1 327 d = nI a) ∧ (A.1 4 d = 3 → ∃ a, a ≤ sz ∧ c.1 326 d = nI a)) ∧ (dRg A d = true → c.1 326 d = if A.1 5 d = 0 then -1 else nI (A.1 5 d))
def Cit (pl : Nat → Nat) (A : ds) (I : Nat) (c : ms) : Prop := ∀ i, i < I → c.1 329 i = nI (A.1 10 i) ∧ c.1 330 i = nI (pl (A.1 11 i)) ∧ c.1 331 i = nI (A.1 12 i)
def Clk (A : ds) (c : ms) (sz : Nat) (lit : Nat → Int64) (lc : Nat) : Prop := ∀ k, k < A.1 42 0 → c.1 333 k = nI (A.1 13 k - A.1 37 k) ∧ (A.1 14 k = 0 → CLr c sz (A.1 36 k) lit lc 334 335 k (A.2.1 1 k)) ∧ (A.1 14 k ≠ 0 → c.1 334 k = nI (A.1 14 k - 1 - A.1 36 k))
def Cpc (A : ds) (c : ms) (sz : Nat) (lit : Nat → Int64) (lc : Nat) : Prop := ∀ p, p < A.1 45 0 → c.1 320 p = nI (A.1 15 p) ∧ A.1 15 p ≤ 1 ∧ ∃ a b, c.1 318 p = nI a ∧ c.1 319 p = nI b ∧ a ≤ b ∧ b ≤ sz ∧ (A.1 15 p = 1 → b = a + (A.2.1 2 (A.1 16 p)).length ∧ cEnc (c.2 336) (A.1 38 (A.1 16 p)) lit lc a (A.2.1 2 (A.1 16 p)) ∧ A.1 16 p < A.1 43 0) ∧ (A.1 15 p = 0 → Cg (c.2 336) (A.1 34 (A.1 16 p)) lit lc (fun d => A.1 34 (A.1 16 p) ≤ d ∧ d < A.1 33 (A.1 16 p)) 0 a b (A.2.2 (A.1 16 p)) ∧ A.1 16 p < A.1 44 0)
def Cmo (pl : Nat → Nat) (A : ds) (c : ms) : Prop := (∀ m, m ≤ A.1 46 0 → c.1 311 m = nI (pl (A.1 20 m)) ∧ c.1 312 m = nI (A.1 21 m) ∧ c.1 313 m = nI (A.1 26 m) ∧ c.1 314 m = nI (A.1 22 m) ∧ c.1 315 m = nI (A.1 25 m)) ∧ ∀ m, m < A.1 46 0 → c.1 600 m = nI (cap28 (A.1 30 m + 1)) ∧ c.1 601 m = nI (cap28 (A.1 29 m)) ∧ c.1 602 m = nI (cap28 (A.1 28 m)) ∧ c.1 603 m = nI (cap28 (A.1 31 m)) ∧ c.1 604 m = nI (cap28 (A.1 27 m))
/-- within a module; I items, K links are there by now -/
def DC (pl wd : Nat → Nat) (nw : Nat) (lit : Nat → Int64) (lc : Nat) (A : ds) (I K sz : Nat) (c : ms) : Prop := Ck A I K c ∧ Cnm pl wd A c ∧ Cdr A c sz lit lc ∧ Cit pl A I c ∧ Clk A c sz lit lc ∧ Cpc A c sz lit lc ∧ Cmo pl A c ∧ Wr wd A I nw c ∧ Wm wd A (A.1 46 0 + 1) nw c
/-- what the class finds in its tokens -/
def KS (tk pl vl wi wd : Nat → Nat) (nt : Nat) (ex : Nat → Int32) (nw : Nat) (lit : Nat → Int64) (lc : Nat) (c : ms) : Prop :=
  CT tk pl nt ex c ∧ c.1 340 0 = nI lc ∧ lc < 13000 ∧ c.2 339 = lit ∧ (∀ i, i < nt → tk i = 401 → ex i = nI (vl i) ∧ vl i < 65536) ∧
  (∀ i, i < nt → tk i = 402 → ∃ l, ex i = nI l ∧ l < lc ∧ c.1 338 l = nI (wi i) ∧ 1 ≤ wi i ∧ wi i ≤ 64 ∧ lit l = lN (vl i)) ∧
  (∀ i, i < nt → tk i = 400 → ex i = nI (wd i) ∧ wd i < nw) ∧ nw ≤ 19830
section CDC
variable {tk pl vl wi wd : Nat → Nat} {nt nw N N0 N1 lc : Nat} {ex : Nat → Int32} {lit : Nat → Int64} {c c' : ms} {A : ds} {I K sz t : Nat}
theorem KS.keep {ks js : List Nat} (h : KS tk pl vl wi wd nt ex nw lit lc c) (e : Eb ks js c c') (hk : 212 ∉ ks ∧ 338 ∉ ks ∧ 340 ∉ ks) (hj : 211 ∉ js ∧ 339 ∉ js) : KS tk pl vl wi wd nt ex nw lit lc c' := by
  unfold KS CT at *
  rw [e.1 212 hk.1, e.1 338 hk.2.1, e.1 340 hk.2.2, e.2 211 hj.1, e.2 339 hj.2]
  exact h
theorem CLr.keep {sz' fd r1 r2 i : Nat} {L : List aop} (h : CLr c sz fd lit lc r1 r2 i L) (h1 : c'.1 r1 i = c.1 r1 i) (h2 : c'.1 r2 i = c.1 r2 i) (hr : ∀ k, k < sz → c'.2 336 k = c.2 336 k) (hs : sz ≤ sz') : CLr c' sz' fd lit lc r1 r2 i L := by
  obtain ⟨a, a1, a2, a3, a4⟩ := h
  exact ⟨a, by rw [h1]; exact a1, by rw [h2]; exact a2, by omega, a4.mono (fun k hk => hr k (by omega))⟩
theorem Ck.keep {ks js : List Nat} (h : Ck A I K c) (e : Eb ks js c c') (hk : 321 ∉ ks ∧ 328 ∉ ks ∧ 332 ∉ ks ∧ 317 ∉ ks ∧ 233 ∉ ks ∧ 309 ∉ ks) : Ck A I K c' := by
  unfold Ck at *
  rw [e.1 321 hk.1, e.1 328 hk.2.1, e.1 332 hk.2.2.1, e.1 317 hk.2.2.2.1, e.1 233 hk.2.2.2.2.1, e.1 309 hk.2.2.2.2.2]
  exact h
theorem Cnm.keep {ks js : List Nat} (h : Cnm pl wd A c) (e : Eb ks js c c') (hk : 322 ∉ ks ∧ 323 ∉ ks ∧ 324 ∉ ks ∧ 237 ∉ ks) (hj : 325 ∉ js) : Cnm pl wd A c' := by
  unfold Cnm at *
  rw [e.1 322 hk.1, e.1 323 hk.2.1, e.1 324 hk.2.2.1, e.1 237 hk.2.2.2, e.2 325 hj]
  exact h
theorem Cdr.keep {ks js : List Nat} {sz' : Nat} (h : Cdr A c sz lit lc) (e : Eb ks js c c') (hk : 326 ∉ ks ∧ 327 ∉ ks) (hr : ∀ k, k < sz → c'.2 336 k = c.2 336 k) (hs : sz ≤ sz') : Cdr A c' sz' lit lc := by
  intro d hd
  obtain ⟨h1, h2⟩ := h d hd
  refine ⟨fun z => ?_, by rw [e.1 326 hk.1]; exact h2⟩
  obtain ⟨y1, y2, y3, y4⟩ := h1 z
  refine ⟨by rw [e.1 326 hk.1]; exact y1, fun y => (y2 y).keep (by rw [e.1 326 hk.1]) (by rw [e.1 327 hk.2]) hr hs, fun y => ?_, fun y => ?_⟩
  · obtain ⟨a, a1, a2, a3⟩ := y3 y
    exact ⟨a, by omega, by rw [e.1 326 hk.1]; exact a2, by rw [e.1 327 hk.2]; exact a3⟩
  · obtain ⟨a, a1, a2⟩ := y4 y
    exact ⟨a, by omega, by rw [e.1 326 hk.1]; exact a2⟩
theorem Cit.keep {ks js : List Nat} (h : Cit pl A I c) (e : Eb ks js c c') (hk : 329 ∉ ks ∧ 330 ∉ ks ∧ 331 ∉ ks) : Cit pl A I c' := by
  unfold Cit at *
  rw [e.1 329 hk.1, e.1 330 hk.2.1, e.1 331 hk.2.2]
  exact h
theorem Clk.keep {ks js : List Nat} {sz' : Nat} (h : Clk A c sz lit lc) (e : Eb ks js c c') (hk : 333 ∉ ks ∧ 334 ∉ ks ∧ 335 ∉ ks) (hr : ∀ k, k < sz → c'.2 336 k = c.2 336 k) (hs : sz ≤ sz') : Clk A c' sz' lit lc := by
  intro k hkk
  obtain ⟨h1, h2, h3⟩ := h k hkk
  exact ⟨by rw [e.1 333 hk.1]; exact h1, fun z => (h2 z).keep (by rw [e.1 334 hk.2.1]) (by rw [e.1 335 hk.2.2]) hr hs, by rw [e.1 334 hk.2.1]; exact h3⟩
theorem Cpc.keep {ks js : List Nat} {sz' : Nat} (h : Cpc A c sz lit lc) (e : Eb ks js c c') (hk : 318 ∉ ks ∧ 319 ∉ ks ∧ 320 ∉ ks) (hr : ∀ k, k < sz → c'.2 336 k = c.2 336 k) (hs : sz ≤ sz') : Cpc A c' sz' lit lc := by
  intro p hp
  obtain ⟨h1, h2, a, b, h3, h4, h5, h6, h7, h8⟩ := h p hp
  exact ⟨by rw [e.1 320 hk.2.2]; exact h1, h2, a, b, by rw [e.1 318 hk.1]; exact h3, by rw [e.1 319 hk.2.1]; exact h4, h5, by omega, fun z => ⟨(h7 z).1, (h7 z).2.1.mono (fun k hk => hr k (by have := (h7 z).1; omega)), (h7 z).2.2⟩, fun z => ⟨(h8 z).1.mono (fun k k1 k2 => hr k (by omega)), (h8 z).2⟩⟩
theorem Cmo.keep {ks js : List Nat} (h : Cmo pl A c) (e : Eb ks js c c') (hk : 311 ∉ ks ∧ 312 ∉ ks ∧ 313 ∉ ks ∧ 314 ∉ ks ∧ 315 ∉ ks ∧ 600 ∉ ks ∧ 601 ∉ ks ∧ 602 ∉ ks ∧ 603 ∉ ks ∧ 604 ∉ ks) : Cmo pl A c' := by
  obtain ⟨k1, k2, k3, k4, k5, k6, k7, k8, k9, k10⟩ := hk
  unfold Cmo at *
  rw [e.1 311 k1, e.1 312 k2, e.1 313 k3, e.1 314 k4, e.1 315 k5, e.1 600 k6, e.1 601 k7, e.1 602 k8, e.1 603 k9, e.1 604 k10]
  exact h
/-- what changes no table -/
def dcL : List Nat := [232, 233, 234, 235, 236, 237, 309, 311, 312, 313, 314, 315, 317, 318, 319, 320, 321, 322, 323, 324, 326, 327, 328, 329, 330, 331, 332, 333, 334, 335, 600, 601, 602, 603, 604]
theorem DC.keep {ks js : List Nat} {sz' : Nat} (h : DC pl wd nw lit lc A I K sz c) (e : Eb ks js c c') (hk : dcL.all (fun k => !ks.contains k) = true) (hj : 325 ∉ js) (hr : ∀ k, k < sz → c'.2 336 k = c.2 336 k) (hs : sz ≤ sz') : DC pl wd nw lit lc A I K sz' c' := by
  have n : ∀ k, k ∈ dcL → k ∉ ks := fun k hk2 z => by
    have := List.all_eq_true.mp hk k hk2
    rw [List.contains_iff_mem.mpr z] at this
    cases this
  obtain ⟨h1, h2, h3, h4, h5, h6, h7, h8, h9⟩ := h
  exact ⟨h1.keep e ⟨n 321 (by decide), n 328 (by decide), n 332 (by decide), n 317 (by decide), n 233 (by decide), n 309 (by decide)⟩, h2.keep e ⟨n 322 (by decide), n 323 (by decide), n 324 (by decide), n 237 (by decide)⟩ hj, h3.keep e ⟨n 326 (by decide), n 327 (by decide)⟩ hr hs, h4.keep e ⟨n 329 (by decide), n 330 (by decide), n 331 (by decide)⟩, h5.keep e ⟨n 333 (by decide), n 334 (by decide), n 335 (by decide)⟩ hr hs, h6.keep e ⟨n 318 (by decide), n 319 (by decide), n 320 (by decide)⟩ hr hs, h7.keep e ⟨n 311 (by decide), n 312 (by decide), n 313 (by decide), n 314 (by decide), n 315 (by decide), n 600 (by decide), n 601 (by decide), n 602 (by decide), n 603 (by decide), n 604 (by decide)⟩, h8.keep e ⟨n 232 (by decide), n 235 (by decide), n 236 (by decide)⟩, h9.keep e (n 234 (by decide))⟩
theorem DC.no (hnt : nt ≤ 12001) (hW : WF tk nt A t) (ht : t ≤ nt + 1) (h : DC pl wd nw lit lc A I K sz c) : NO nw c := by
  obtain ⟨h1, h2, h3, h4, h5, h6, h7, ⟨g1, g2, g3, g4, g5, -⟩, h9⟩ := h
  obtain ⟨⟨a1, a2, a3, a4, a5, a6, a7⟩, w2, w3, w4, w5, w6, w7⟩ := hW
  refine ⟨A.1 21 (A.1 46 0), A.1 40 0, h1.2.2.2.2.1, h1.1, by omega, fun w hw e => ?_⟩
  rw [g1] at e
  rcases g5 w hw e with ⟨d, d1, d2, d3⟩ | ⟨i, i1, i2, i3⟩
  · right
    have := (g3 d d1 d2).2
    rw [d3] at this
    exact ⟨d, A.1 1 d, this, d1, d2, (h2 d d2).2.1, (w2 d d2).2.2.1, (w2 d d2).2.2.2.1⟩
  · left
    have := (g4 i i1 i2).2
    rw [i3] at this
    rw [this]
    decide
/-- what exps and statements stand on -/
theorem CS_of {c0 : ms} (hnt : nt ≤ 12001) (hK : KS tk pl vl wi wd nt ex nw lit lc c) (hW : WF tk nt A t) (ht : t ≤ nt + 1) (h : DC pl wd nw lit lc A I K sz c0) (e : Eb [213, 214, 215, 216, 217, 218, 219, 238, 239, 240, 241, 242, 243, 249, 250, 251, 255, 256, 257, 258, 259, 260, 264, 265, 266, 268, 269, 270, 271, 272, 273, 274, 275, 326, 337] [336] c0 c) : CS tk pl vl wi (dNm wd A) nt ex N (A.1 21 (A.1 46 0)) lit lc c := by
  obtain ⟨k1, k2, k3, k4, k5, k6, k7, k8⟩ := hK
  obtain ⟨h1, h2, h3, h4, h5, h6, h7, h8, h9⟩ := h
  obtain ⟨⟨a1, a2, a3, a4, a5, a6, a7⟩, w2, w3, w4, w5, w6, w7⟩ := hW
  have w3' := w3 _ (Nat.le_refl _)
  refine ⟨k1, k2, k3, by rw [e.1 233 (by decide)]; exact h1.2.2.2.2.1, k4, k5, k6, fun i hi k => ?_⟩
  obtain ⟨x1, x2⟩ := k7 i hi k
  refine ⟨wd i, x1, fun c2 e2 => ?_⟩
  have W2 : Wr wd A I nw c2 := (h8.keep e (by decide)).keep e2 (by decide)
  obtain ⟨y, y1, y2, y3, -⟩ := meant_C (N := N) (x := i) W2 x2 k8 (by omega) (by omega) w3'.1
  refine ⟨y, y1, fun q hq => ?_, fun hq => ?_, fun q hq => ?_⟩
  · unfold dNm at hq
    match er : dHere wd A i with
    | none => rw [er] at hq; cases hq
    | some d =>
      rw [er] at hq
      cases hq
      obtain ⟨e1, e2', e3, -⟩ := fnd_some er
      have dl : d < A.1 40 0 := by omega
      exact ⟨y2 d er, by show d < 10923; omega, by rw [e.1 323 (by decide)]; exact (h2 d dl).2.1, e1, (w2 d dl).2.2.1, (w2 d dl).2.2.2.1⟩
  · have : dHere wd A i = none := by
      unfold dNm at hq
      cases er : dHere wd A i with
      | none => rfl
      | some d => rw [er] at hq; cases hq
    rcases y3 this with rfl | rfl <;> exact sortOf_neg (by decide)
  · unfold dNm at hq
    match er : dHere wd A i with
    | none => rw [er] at hq; cases hq
    | some d =>
      obtain ⟨e1, e2', e3, -⟩ := fnd_some er
      have dl : d < A.1 40 0 := by omega
      have s3 : srt (A.1 2 d) < 2 ^ 31 := by unfold srt; repeat' (first | omega | split)
      rw [y2 d er]
      exact ⟨_, sortOf_at (dc := A.1 40 0) (by rw [e2.1 321 (by decide), e.1 321 (by decide)]; exact h1.1) dl (by omega), by rw [e2.1 324 (by decide), e.1 324 (by decide), (h2 d dl).2.2.1]; exact of_eq_false (nm1F s3)⟩
theorem CQ_of {an : Nat} (hN : 40000 < N) (hN1 : 12002 < N1) (hN0 : 12002 < N0) (T : Tv tk pl nt) (hV : Vb tk vl wi) (hK : KS tk pl vl wi wd nt ex nw lit lc c) (hW : WF tk nt A t) (ht : t ≤ nt + 1) (h : DC pl wd nw lit lc A I K sz c) (h253 : c.1 253 0 = nI an) (an1 : 1 ≤ an) (an2 : an ≤ 20000) : CQ tk pl vl wi (dNm wd A) nt ex N N0 N1 (A.1 21 (A.1 46 0)) lit lc (dRf A) an (A.1 40 0) (fun d => A.1 21 (A.1 46 0) ≤ d ∧ d < A.1 40 0) c := by
  have hnt := T.2.1
  refine ⟨T, hN, hN1, hN0, fun c2 e2 => CS_of hnt (hK.keep e2 (by decide) (by decide)) hW ht h e2, fun i hi => (hV i).2 hi, fun i q hq => ?_, h.1.1, by have := hW.1.1; omega, fun _ => ⟨h253, an1, an2⟩⟩
  unfold dNm at hq
  match er : dHere wd A i with
  | none => rw [er] at hq; cases hq
  | some d =>
    rw [er] at hq
    cases hq
    have hd := dHere_in hW er
    have wd4 := hW.2.1 d hd.1
    refine ⟨hd.1, ⟨hd.2.1, hd.1⟩, wd4.2.2.1, wd4.2.2.2.1, ?_⟩
    rw [(h.2.1 d hd.1).2.2.1]
    have nf : ¬ d = 99999 := by have := hW.1.1; omega
    unfold dRf dRg srt
    simp only [nf, decide_false, Bool.or_false]
    rw [decide_eq_true_iff]
    have k4 := wd4.2.2.2.2.1
    show A.1 2 d = 2 ∨ A.1 2 d = 4 ↔ nI (if A.1 2 d = 0 then 0 else if A.1 2 d = 1 ∨ A.1 2 d = 3 then 1 else 2) = nI 2
    rw [nI_eq (by split <;> (try split) <;> omega) (by decide)]
    constructor
    · intro z
      rw [if_neg (by omega), if_neg (by omega)]
    · intro z
      revert z
      split
      · omega
      · split
        · omega
        · omega
end CDC
