/-! The reference: labels of a case. -/
def mL (B : Nat) : Nat → List Nat
  | 0 => []
  | n + 1 => (B + n) :: mL B n
theorem mL_mem {B : Nat} : ∀ {n j : Nat}, j ∈ mL B n ↔ B ≤ j ∧ j < B + n
  | 0, j => by unfold mL; simp
  | n + 1, j => by
    unfold mL
    rw [List.mem_cons, mL_mem]
    omega
theorem mL_len {B : Nat} : ∀ {n : Nat}, (mL B n).length = n
  | 0 => rfl
  | n + 1 => by unfold mL; rw [List.length_cons, mL_len]
/-- labels lie in the code from B on -/
def Lab (code : Nat → Int32) (nums : Nat → Int64) (nc B : Nat) (ls : List Nat) : Prop := ∀ i u, ls[i]? = some u → code (3 * (B + i)) = nI 12 ∧ ∃ k, k < nc ∧ code (3 * (B + i) + 2) = nI k ∧ nums k = lN u
theorem Lab.mono {code code' : Nat → Int32} {nums nums' : Nat → Int64} {nc nc' B : Nat} {ls : List Nat} (h : Lab code nums nc B ls) (h1 : ∀ k, 3 * B ≤ k → k < 3 * (B + ls.length) → k % 3 ≠ 1 → code' k = code k) (h2 : ∀ k, k < nc → nums' k = nums k) (h3 : nc ≤ nc') : Lab code' nums' nc' B ls := fun i u hi => by
  have il : i < ls.length := (List.getElem?_eq_some_iff.mp hi).1
  obtain ⟨a, k, b, c, d⟩ := h i u hi
  exact ⟨by rw [h1 _ (by omega) (by omega) (by omega)]; exact a, k, by omega, by rw [h1 _ (by omega) (by omega) (by omega)]; exact c, by rw [h2 k b]; exact d⟩
section MLAB
variable {tk pl vl wi : Nat → Nat} {nm : Nat → Option (Nat × Nat)} {nt m N N0 : Nat} {rg : Nat → Bool} {an : Nat} {P : pw} {s0 : ms}
/-- one label, with a fault or without -/
theorem lab1 {r rc : ms → Option (Unit × ms)} {k27 : Int32 → Int32 → ms → Option (Unit × ms)} {k42 : Int32 → Int32 → Int32 → Int32 → ms → Option (Unit × ms)} {S : ms} {f t la nc w : Nat} {x2 x3 : Int32} (hM : MC tk pl vl wi nm nt m N N0 rg an P s0) (e : SE2 s0 S) (hX : Xm S f t la nc 0 0) (ht : t + 1 < nt) (k402 : tk t = 402) (hw : w ≤ 64) (hla : la + 1 < 33000) (hnc : nc + 1 < 30000) : ∃ S', bk_M_caseOf_81 N r rc k27 k42 (nI w) x2 x3 S = k42 (nI w) x2 (nI (3 * la)) (if tk (t + 1) = 44 then 1 else 0) S' ∧ Xm S' f (t + 2) (la + 1) (nc + 1) 0 0 ∧ SE2 s0 S' ∧ Op1 S S' la 12 x3 (nI nc) ∧ (∀ k, k < nc → S'.2 43 k = S.2 43 k) ∧ S'.2 43 nc = lN (vl t) ∧ S'.2 45 m = S.2 45 m + lN w ∧ (∀ k, k ≠ m → S'.2 45 k = S.2 45 k) ∧ S'.1 10 = S.1 10 ∧ S'.1 26 = S.1 26 := by
  obtain ⟨hT, hS, hN, hN0, -⟩ := hM
  have l1 := hT.2.1
  have sm := hS S e
  unfold bk_M_caseOf_81
  rw [i64nI (by omega), cost_M sm.1 sm.2.1, obind]
  dsimp only
  have e1 : SE2 s0 (upJ S 45 (vp_updL (S.2 45) m (S.2 45 m + lN w))) := e.upJ (by decide)
  have X1 : Xm (upJ S 45 (vp_updL (S.2 45) m (S.2 45 m + lN w))) f t la nc 0 0 := hX.any (Eb.rfl.upJ (by decide))
  generalize hS1 : upJ S 45 (vp_updL (S.2 45) m (S.2 45 m + lN w)) = S1 at *
  obtain ⟨g, hg⟩ := (hS S1 e1).2.2.2.2.1 S1 Eb.rfl t (by omega) (Or.inr k402)
  rw [X1.2.2.1, hg, obind]
  dsimp only
  obtain ⟨S2, a1, a2, a3, a4, a5⟩ := keep_M (N := N) (v := lN (vl t)) (X1.any (s' := upI S1 87 g) (Eb.rfl.upI (by decide))) hnc
  rw [a1, obind]
  dsimp only
  unfold bk_M_caseOf_103
  obtain ⟨S3, b1, b2, b3, b4⟩ := lay_M (N := N) (a := 12) (b := x3) (c := nI nc) a2 hla
  rw [b1, obind]
  dsimp only
  unfold bk_M_caseOf_106
  have e3 : SE2 s0 S3 := ((e1.upI (by decide)).trans (a5.mono (by decide) (by decide))).trans (b4.mono (by decide) (by decide))
  have X4 : Xm (upI S3 8 (fun _ => S3.1 8 0 + 1)) f (t + 1) (la + 1) (nc + 1) 0 0 := b2.tset (by rw [b2.2.2.1, nI_1]) (by omega)
  have kl : tk (t + 1) < 405 := hT.lt ht
  rw [kind_M (hS _ (e3.upI (by decide))) X4 ht, obind, b2.2.2.2.2.1, show (3 : Int32) = nI 3 from rfl, nI_sub (by omega), show 3 * (la + 1) - 3 = 3 * la by omega]
  dsimp only
  unfold bk_M_caseOf_137
  refine ⟨upI (upI S3 8 (fun _ => S3.1 8 0 + 1)) 8 (fun _ => (upI S3 8 (fun _ => S3.1 8 0 + 1)).1 8 0 + 1), ?_, X4.tset (by rw [X4.2.2.1, nI_1]) (by omega), (e3.upI (by decide)).upI (by decide), ⟨fun k hk => ?_, b3.2.1, b3.2.2.1, b3.2.2.2⟩, fun k hk => ?_, ?_, ?_, fun k hk => ?_, ?_, ?_⟩
  · by_cases c : tk (t + 1) = 44
    · rw [if_pos (show nI (tk (t + 1)) = 44 by rw [c]; rfl), if_pos c]
    · rw [if_neg (show ¬ nI (tk (t + 1)) = 44 from fun z => c ((nI_eq (b := 44) (by omega) (by omega)).mp z)), if_neg c]
  · show S3.1 41 k = _
    rw [b3.1 k hk, a5.1 41 (by decide), ← hS1]; rfl
  · show S3.2 43 k = _
    rw [b4.2 43 (by decide), a3 k hk, ← hS1]; rfl
  · show S3.2 43 nc = _
    rw [b4.2 43 (by decide), a4]
  · show S3.2 45 m = _
    rw [b4.2 45 (by decide), a5.2 45 (by decide), ← hS1]
    show vp_updL (S.2 45) m (S.2 45 m + lN w) m = _
    rw [updL_at]
  · show S3.2 45 k = _
    rw [b4.2 45 (by decide), a5.2 45 (by decide), ← hS1]
    show vp_updL (S.2 45) m (S.2 45 m + lN w) k = _
    rw [updL_ne hk]
  · show S3.1 10 = _
    rw [b4.1 10 (by decide), a5.1 10 (by decide), ← hS1]; rfl
  · show S3.1 26 = _
    rw [b4.1 26 (by decide), a5.1 26 (by decide), ← hS1]; rfl
/-- labels up to the colon -/
theorem lab_M {r rc : ms → Option (Unit × ms)} {s : ms} {la0 nc0 C0 w B n2 : Nat} {x2 : Int32} {E : List Nat} (hM : MC tk pl vl wi nm nt m N N0 rg an P s0) (rz : ∀ s : ms, ¬ s.1 9 0 = 0 → r s = some ((), s)) (hw : w ≤ 64) (hB0 : la0 ≤ B) (hE : ∀ j, j ∈ E → la0 ≤ j ∧ j < B) (hEn : E.length ≤ 12500) : ∀ (n : Nat) (S : ms) (t la nc CC : Nat) (ls : List Nat) (x3 : Int32), Ps m s0 s la0 nc0 C0 S t la nc CC → Bd nt t la nc (C0 + CC) → la = B + ls.length → Lab (S.1 41) (S.2 43) nc B ls → chn (S.1 41) x3 (mL B ls.length) → chn (S.1 41) x2 E → ∀ q, sLl tk pl vl wi nt w n t ls = some q →
    (∀ f p, q = .inl (f, p) → ∃ S', hd_M_caseOf_42 N r rc (hd_M_caseOf_27 N r rc (n2 + 1)) (n + 1) (nI w) x2 x3 1 S = some ((), S') ∧ Zs m s0 s la0 nc0 S' f p 13000) ∧
    (∀ t1 ls', q = .inr (t1, ls') → ∃ S' nc' x3', hd_M_caseOf_42 N r rc (hd_M_caseOf_27 N r rc (n2 + 1)) (n + 1) (nI w) x2 x3 1 S = bk_M_caseOf_152 N r rc (hd_M_caseOf_27 N r rc (n2 + 1)) (nI w) x2 x3' S' ∧ ls.length < ls'.length ∧ Ps m s0 s la0 nc0 C0 S' t1 (B + ls'.length) nc' (CC + w * (ls'.length - ls.length)) ∧ Lab (S'.1 41) (S'.2 43) nc' B ls' ∧ chn (S'.1 41) x3' (mL B ls'.length) ∧ (∀ k, k < 3 * la → S'.1 41 k = S.1 41 k) ∧ (∀ k, k < nc → S'.2 43 k = S.2 43 k) ∧ S'.1 26 = S.1 26 ∧ t + 2 * (ls'.length - ls.length) = t1 ∧ nc' = nc + (ls'.length - ls.length) ∧ t1 ≤ nt) := by
  intro n
  induction n with
  | zero => intro S t la nc CC ls x3 _ _ _ _ _ _ q hq; cases hq
  | succ n ih =>
    intro S t la nc CC ls x3 hp hB hla hLab hm hc q hq
    have hM' := hM
    obtain ⟨hT, hS, hN, hN0, -⟩ := hM
    obtain ⟨j1, j2, j3, j4, j5⟩ := id hB
    unfold sLl at hq
    by_cases g : nt ≤ t + 1 ∨ tk t ≠ 402
    · rw [if_pos g] at hq; cases hq
    rw [if_neg g] at hq
    have t1n : t + 1 < nt := by
      by_cases z : nt ≤ t + 1
      · exact absurd (Or.inl z) g
      · omega
    have k402 : tk t = 402 := by
      by_cases z : tk t = 402
      · exact z
      · exact absurd (Or.inr z) g
    have sm := hS S hp.1
    have ws := ((sm.2.2.2.2.2.2.2.2 t (by omega)).2 k402).2
    have wn : fn_M_widthOfNumber N (S.1 8 0) S = some (nI (wi t), S) := by rw [hp.eight]; exact sm.2.2.2.2.2.1 S Eb.rfl t (by omega) k402
    have e5 : S.1 5 t = nI (pl t) := (sm.2.2.1 t (by omega)).2
    have st : hd_M_caseOf_42 N r rc (hd_M_caseOf_27 N r rc (n2 + 1)) (n + 1 + 1) (nI w) x2 x3 1 S = bd_M_caseOf_42 N r rc (hd_M_caseOf_27 N r rc (n2 + 1)) (hd_M_caseOf_42 N r rc (hd_M_caseOf_27 N r rc (n2 + 1)) (n + 1)) (nI w) x2 x3 1 S := rfl
    rw [st]
    unfold bd_M_caseOf_42
    rw [if_neg (show ¬ (1 : Int32) = 0 by decide), if_pos hp.nine, wn, obind]
    dsimp only
    have lal : la0 ≤ la := hp.2.2.1
    have ncl : nc0 ≤ nc := hp.2.2.2.1
    by_cases c : wi t = w
    · rw [if_pos c] at hq
      rw [if_pos (by rw [c])]
      obtain ⟨S1, a1, a2, a3, a4, a5, a6, a7, a8, a9, a10⟩ := lab1 (r := r) (rc := rc) (k27 := hd_M_caseOf_27 N r rc (n2 + 1)) (k42 := hd_M_caseOf_42 N r rc (hd_M_caseOf_27 N r rc (n2 + 1)) (n + 1)) (x2 := x2) (x3 := x3) hM' hp.1 hp.2.2.2.2.1 t1n k402 hw (by omega) (by omega)
      rw [a1]
      have p1 : Ps m s0 s la0 nc0 C0 S1 (t + 2) (la + 1) (nc + 1) (CC + w) := ⟨a3, hp.2.1.trans (la' := la0) (nc' := nc0) (W' := 0) (F' := 0) ⟨fun k hk => a4.1 k (by omega), fun k hk => a5 k (by omega), fun k hk => (by omega), fun k hk => (by omega), a8⟩ (Nat.le_refl _) (Nat.le_refl _) (Nat.le_refl _) (Nat.le_refl _), by omega, by omega, a2, by rw [a7, hp.2.2.2.2.2, lN_add]; congr 1; omega⟩
      have ll : (ls ++ [vl t]).length = ls.length + 1 := by simp
      have lab' : Lab (S1.1 41) (S1.2 43) (nc + 1) B (ls ++ [vl t]) := by
        intro i u hi
        by_cases il : i < ls.length
        · rw [List.getElem?_append_left il] at hi
          exact (hLab.mono (fun k k1 k2 _ => a4.1 k (by omega)) a5 (Nat.le_succ _)) i u hi
        · rw [List.getElem?_append_right (by omega)] at hi
          have i0 : i = ls.length := by
            by_cases z : i = ls.length
            · exact z
            · rw [show i - ls.length = (i - ls.length - 1) + 1 by omega] at hi; simp at hi
          rw [i0, Nat.sub_self] at hi
          cases hi
          rw [i0, ← hla]
          exact ⟨a4.2.1, nc, by omega, a4.2.2.2, a6⟩
      have hm' : chn (S1.1 41) (nI (3 * la)) (mL B (ls ++ [vl t]).length) := by
        rw [ll]
        refine ⟨by rw [hla], fun i hi => (mL_mem.mp hi).2, ?_⟩
        rw [← hla, a4.2.2.1]
        exact hm.mono (fun j hj => by have := (mL_mem.mp hj).2; exact a4.1 _ (by omega))
      have hc' : chn (S1.1 41) x2 E := hc.mono (fun j hj => by have := (hE j hj).2; exact a4.1 _ (by omega))
      by_cases k44 : tk (t + 1) = 44
      · rw [if_pos k44] at hq ⊢
        obtain ⟨u1, u2⟩ := ih S1 (t + 2) (la + 1) (nc + 1) (CC + w) (ls ++ [vl t]) (nI (3 * la)) p1 ⟨by omega, j2, by omega, by omega, by omega⟩ (by rw [ll]; omega) lab' hm' hc' q hq
        refine ⟨u1, fun t1 ls' z => ?_⟩
        obtain ⟨S', nc', x3', v1, v2, v3, v4, v5, v6, v7, v8, v9, v10, v11⟩ := u2 t1 ls' z
        rw [ll] at v2 v3 v9 v10
        refine ⟨S', nc', x3', v1, by omega, ?_, v4, v5, fun k hk => (v6 k (by omega)).trans (a4.1 k hk), fun k hk => (v7 k (by omega)).trans (a5 k hk), v8.trans a10, by omega, by omega, v11⟩
        rw [show CC + w * (ls'.length - ls.length) = CC + w + w * (ls'.length - (ls.length + 1)) by
          rw [show ls'.length - ls.length = (ls'.length - (ls.length + 1)) + 1 by omega, Nat.mul_add]; omega]
        exact v3
      · rw [if_neg k44] at hq ⊢
        cases hq
        refine ⟨fun _ _ z => (by cases z), fun t1 ls' z => ?_⟩
        cases z
        refine ⟨S1, nc + 1, nI (3 * la), ?_, by rw [ll]; omega, ?_, lab', hm', a4.1, a5, a10, by rw [ll]; omega, by rw [ll]; omega, by omega⟩
        · show bd_M_caseOf_42 N r rc (hd_M_caseOf_27 N r rc (n2 + 1)) (hd_M_caseOf_42 N r rc (hd_M_caseOf_27 N r rc (n2 + 1)) n) (nI w) x2 (nI (3 * la)) 0 S1 = _
          unfold bd_M_caseOf_42
          rw [if_pos rfl]
        · rw [ll, show ls.length + 1 - ls.length = 1 by omega, Nat.mul_one, show B + (ls.length + 1) = la + 1 by omega]; exact p1
    · rw [if_neg c] at hq
      cases hq
      refine ⟨fun f p z => ?_, fun _ _ z => (by cases z)⟩
      cases z
      rw [if_neg (fun z => c ((nI_eq (by omega) (by omega)).mp z)), hp.eight, if_neg (nI_in (show t < 65540 by omega) (by decide)), nI_clamp (by omega), e5]
      obtain ⟨a1, a2, a3, a4, a5, a6⟩ := hp
      obtain ⟨S1, z1, z2, z3, z4⟩ := fail_M (N := N) (w := 30) (y := nI (pl t)) a5 (by decide)
      rw [show fn_M_fail N 30 (nI (pl t)) S = some ((), S1) from z1, obind]
      dsimp only
      have es1 : SE2 s0 S1 := a1.trans (z4.mono (by decide) (by decide))
      obtain ⟨S2, b1, b2, b3, b4, b5, b6, b7, b8, b9, b10⟩ := lab1 (r := r) (rc := rc) (k27 := hd_M_caseOf_27 N r rc (n2 + 1)) (k42 := hd_M_caseOf_42 N r rc (hd_M_caseOf_27 N r rc (n2 + 1)) (n + 1)) (x2 := x2) (x3 := x3) hM' es1 z2 t1n k402 hw (by omega) (by omega)
      rw [b1]
      have zl : Zl m s0 s la0 nc0 S2 30 (pl t) (t + 2) (la + 1) (nc + 1) := ⟨b3, a2.trans (la' := la0) (nc' := nc0) (W' := 0) (F' := 0) ⟨fun k hk => (b4.1 k (by omega)).trans (by rw [z4.1 41 (by decide)]), fun k hk => (b5 k (by omega)).trans (by rw [z4.2 43 (by decide)]), fun k hk => (by omega), fun k hk => (by omega), fun k hk => (b8 k hk).trans (by rw [z4.2 45 (by decide)])⟩ (Nat.le_refl _) (Nat.le_refl _) (Nat.le_refl _) (Nat.le_refl _), by decide, by rw [b9]; exact z3, b2, by omega, by omega⟩
      have go : ∀ x4 : Int32, hd_M_caseOf_42 N r rc (hd_M_caseOf_27 N r rc (n2 + 1)) (n + 1) (nI w) x2 (nI (3 * la)) x4 S2 = bk_M_caseOf_152 N r rc (hd_M_caseOf_27 N r rc (n2 + 1)) (nI w) x2 (nI (3 * la)) S2 := by
        intro x4
        show bd_M_caseOf_42 N r rc (hd_M_caseOf_27 N r rc (n2 + 1)) (hd_M_caseOf_42 N r rc (hd_M_caseOf_27 N r rc (n2 + 1)) n) (nI w) x2 (nI (3 * la)) x4 S2 = _
        unfold bd_M_caseOf_42
        by_cases x0 : x4 = 0
        · rw [if_pos x0]
        · rw [if_neg x0, if_neg zl.nine]
      rw [go]
      have cd : ∀ j, j < la → S2.1 41 (3 * j + 1) = S.1 41 (3 * j + 1) := fun j hj => (b4.1 _ (by omega)).trans (by rw [z4.1 41 (by decide)])
      obtain ⟨S3, d1, d2⟩ := c152Z (N := N) (r := r) (rc := rc) (n := n2) (w := nI w) (x2 := x2) (x3 := nI (3 * la)) (E := E) (M := la :: mL B ls.length) rz zl (by omega) (by omega) (hc.mono (fun j hj => by have := (hE j hj).2; exact cd j (by omega))) (fun j hj => by have := hE j hj; omega) (by omega) ⟨rfl, fun i hi => by have := (mL_mem.mp hi).2; omega, by rw [b4.2.2.1]; exact hm.mono (fun j hj => by have := (mL_mem.mp hj).2; exact cd j (by omega))⟩ (fun j hj => by
        rcases List.mem_cons.mp hj with rfl | hj
        · omega
        · have := mL_mem.mp hj; omega) (by rw [List.length_cons, mL_len]; omega) (fun j hj hj2 => by
        have h2 := (hE j hj2).2
        rcases List.mem_cons.mp hj with rfl | hj
        · omega
        · have := mL_mem.mp hj; omega)
      exact ⟨S3, d1, d2.zs ⟨by omega, by omega, by omega⟩⟩
end MLAB
