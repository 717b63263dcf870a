/-! The reference's read: rows copied, sums. -/
theorem nark : ∀ b : Fin 256, vp_nar .byte (kch b.1) = kch b.1 := by decide +kernel
theorem kand : ∀ b : Fin 256, kch b.1 &&& 255 = nI b.1 := by decide +kernel
theorem nar8 : ∀ b : Fin 256, vp_nar .byte ((Int8.ofBitVec (BitVec.ofNat 8 b.1)).toInt32) = kch b.1 := by decide +kernel
theorem byte_k (x : Int8) : ∃ b, b < 256 ∧ vp_nar .byte x.toInt32 = kch b := by
  refine ⟨x.toBitVec.toNat, x.toBitVec.isLt, ?_⟩
  have h := nar8 ⟨x.toBitVec.toNat, x.toBitVec.isLt⟩
  dsimp only at h
  rw [BitVec.ofNat_toNat, BitVec.setWidth_eq] at h
  exact h
theorem fword_k (v1 v2 v3 v4 v5 : Int32) (k : Nat) : ∃ b, b < 256 ∧ fword v1 v2 v3 v4 v5 k = kch b := by
  have c : ∀ w sh : Int32, ∃ b, b < 256 ∧ cbyte w sh = kch b := fun w sh => by unfold cbyte; exact byte_k _
  unfold fword cword
  split
  · exact c _ _
  split
  · exact c _ _
  split
  · exact c _ _
  split
  · exact c _ _
  · exact c _ _
section MREAD
variable {ch : Nat → Nat} {n N : Nat}
theorem cp7 (hn : n ≤ 12000) (hb : ∀ k, k < n → ch k < 256) : ∀ (j k m : Nat) (s : ms), k + j = n → j < m → s.1 88 0 = nI n → (∀ i, i < n → s.1 1 i = kch (ch i)) → (∀ i, i < k → s.1 90 i = kch (ch i)) → ∃ s', hd_M_read_I_7 N m (nI k) s = (fn_M_readSource N (upI (upI s' 2 (fun _ => s'.1 88 0)) 88 (fun _ => 0))).bind (fun q_1 => bk_M_read_I_50 N q_1.2) ∧ Eb [90] [] s s' ∧ ∀ i, i < n → s'.1 90 i = kch (ch i) := by
  intro j
  induction j with
  | zero =>
    intro k m s h1 h2 h88 h1' h90
    obtain ⟨m, rfl⟩ : ∃ q, m = q + 1 := ⟨m - 1, by omega⟩
    refine ⟨s, ?_, Eb.rfl, fun i hi => h90 i (by omega)⟩
    show bd_M_read_I_7 N (hd_M_read_I_7 N m) (nI k) s = _
    unfold bd_M_read_I_7
    rw [if_pos (show s.1 88 0 ≤ nI k by rw [h88]; exact nI_le (by omega) (by omega))]
  | succ j ih =>
    intro k m s h1 h2 h88 h1' h90
    obtain ⟨m, rfl⟩ : ∃ q, m = q + 1 := ⟨m - 1, by omega⟩
    obtain ⟨s', a1, a2, a3⟩ := ih (k + 1) m (upI s 90 (upd (s.1 90) k (vp_nar .byte (s.1 1 k)))) (by omega) (by omega) h88 h1' (fun i hi => by
      show upd (s.1 90) k (vp_nar .byte (s.1 1 k)) i = _
      by_cases z : i = k
      · rw [z, upd_at, h1' k (by omega)]
        exact nark ⟨ch k, hb k (by omega)⟩
      · rw [upd_ne z]
        exact h90 i (by omega))
    refine ⟨s', ?_, (Eb.rfl.upI (by decide)).trans a2, a3⟩
    rw [← a1]
    show bd_M_read_I_7 N (hd_M_read_I_7 N m) (nI k) s = _
    unfold bd_M_read_I_7
    rw [if_neg (show ¬ s.1 88 0 ≤ nI k by rw [h88]; exact nI_ge (by omega) (by omega)), if_neg (nI_in (show k < 65536 by omega) (by decide)), if_neg (nI_in (show k < 65536 by omega) (by decide)), nI_clamp (by omega), nI_1]
theorem cp79 {x1 : Int32} (hn : n ≤ 12000) (hb : ∀ k, k < n → ch k < 256) : ∀ (j k m : Nat) (s : ms), k + j = n → j < m → s.1 89 0 = nI n → (∀ i, i < n → s.1 55 i = kch (ch i)) → (∀ i, i < k → s.1 90 i = kch (ch i)) → ∃ s', hd_M_read_I_79 N m x1 (nI k) s = (fn_M_readSource N (upI s' 2 (fun _ => s'.1 89 0))).bind (fun q_1 => bk_M_read_I_117 N x1 q_1.2) ∧ Eb [90] [] s s' ∧ ∀ i, i < n → s'.1 90 i = kch (ch i) := by
  intro j
  induction j with
  | zero =>
    intro k m s h1 h2 h88 h1' h90
    obtain ⟨m, rfl⟩ : ∃ q, m = q + 1 := ⟨m - 1, by omega⟩
    refine ⟨s, ?_, Eb.rfl, fun i hi => h90 i (by omega)⟩
    show bd_M_read_I_79 N (hd_M_read_I_79 N m) x1 (nI k) s = _
    unfold bd_M_read_I_79
    rw [if_pos (show s.1 89 0 ≤ nI k by rw [h88]; exact nI_le (by omega) (by omega))]
  | succ j ih =>
    intro k m s h1 h2 h88 h1' h90
    obtain ⟨m, rfl⟩ : ∃ q, m = q + 1 := ⟨m - 1, by omega⟩
    obtain ⟨s', a1, a2, a3⟩ := ih (k + 1) m (upI s 90 (upd (s.1 90) k (vp_nar .byte (s.1 55 k)))) (by omega) (by omega) h88 h1' (fun i hi => by
      show upd (s.1 90) k (vp_nar .byte (s.1 55 k)) i = _
      by_cases z : i = k
      · rw [z, upd_at, h1' k (by omega)]
        exact nark ⟨ch k, hb k (by omega)⟩
      · rw [upd_ne z]
        exact h90 i (by omega))
    refine ⟨s', ?_, (Eb.rfl.upI (by decide)).trans a2, a3⟩
    rw [← a1]
    show bd_M_read_I_79 N (hd_M_read_I_79 N m) x1 (nI k) s = _
    unfold bd_M_read_I_79
    rw [if_neg (show ¬ s.1 89 0 ≤ nI k by rw [h88]; exact nI_ge (by omega) (by omega)), if_neg (nI_in (show k < 65536 by omega) (by decide)), if_neg (nI_in (show k < 65536 by omega) (by decide)), nI_clamp (by omega), nI_1]
theorem cp121 (hn : n ≤ 12000) (hb : ∀ k, k < n → ch k < 256) : ∀ (j k m : Nat) (s : ms), k + j = n → j < m → s.1 2 0 = nI n → (∀ i, i < n → s.1 90 i = kch (ch i)) → (∀ i, i < k → s.1 55 i = kch (ch i)) → ∃ s', hd_M_read_I_121 N m (nI k) s = (fn_M_sumUp N (upI (upI s' 89 (fun _ => s'.1 2 0)) 54 (fun _ => 1))).bind (fun q_1 => hd_M_read_I_166 N N 0 q_1.2) ∧ Eb [55] [] s s' ∧ ∀ i, i < n → s'.1 55 i = kch (ch i) := by
  intro j
  induction j with
  | zero =>
    intro k m s h1 h2 h88 h1' h90
    obtain ⟨m, rfl⟩ : ∃ q, m = q + 1 := ⟨m - 1, by omega⟩
    refine ⟨s, ?_, Eb.rfl, fun i hi => h90 i (by omega)⟩
    show bd_M_read_I_121 N (hd_M_read_I_121 N m) (nI k) s = _
    unfold bd_M_read_I_121
    rw [if_pos (show s.1 2 0 ≤ nI k by rw [h88]; exact nI_le (by omega) (by omega))]
  | succ j ih =>
    intro k m s h1 h2 h88 h1' h90
    obtain ⟨m, rfl⟩ : ∃ q, m = q + 1 := ⟨m - 1, by omega⟩
    obtain ⟨s', a1, a2, a3⟩ := ih (k + 1) m (upI s 55 (upd (s.1 55) k (vp_nar .byte (s.1 90 k)))) (by omega) (by omega) h88 h1' (fun i hi => by
      show upd (s.1 55) k (vp_nar .byte (s.1 90 k)) i = _
      by_cases z : i = k
      · rw [z, upd_at, h1' k (by omega)]
        exact nark ⟨ch k, hb k (by omega)⟩
      · rw [upd_ne z]
        exact h90 i (by omega))
    refine ⟨s', ?_, (Eb.rfl.upI (by decide)).trans a2, a3⟩
    rw [← a1]
    show bd_M_read_I_121 N (hd_M_read_I_121 N m) (nI k) s = _
    unfold bd_M_read_I_121
    rw [if_neg (show ¬ s.1 2 0 ≤ nI k by rw [h88]; exact nI_ge (by omega) (by omega)), if_neg (nI_in (show k < 65536 by omega) (by decide)), if_neg (nI_in (show k < 65536 by omega) (by decide)), nI_clamp (by omega), nI_1]
theorem cp166 {ns : Nat} (hn : ns ≤ 1024) : ∀ (j k m : Nat) (s : ms), k + j = ns → j < m → s.1 63 0 = nI ns → ∃ s', hd_M_read_I_166 N m (nI k) s = (fn_M_begin0 N s').bind (fun q_1 => some ((-1), q_1.2)) ∧ Eb [] [83] s s' := by
  intro j
  induction j with
  | zero =>
    intro k m s h1 h2 h63
    obtain ⟨m, rfl⟩ : ∃ q, m = q + 1 := ⟨m - 1, by omega⟩
    refine ⟨s, ?_, Eb.rfl⟩
    show bd_M_read_I_166 N (hd_M_read_I_166 N m) (nI k) s = _
    unfold bd_M_read_I_166
    rw [if_pos (show s.1 63 0 ≤ nI k by rw [h63]; exact nI_le (by omega) (by omega))]
  | succ j ih =>
    intro k m s h1 h2 h63
    obtain ⟨m, rfl⟩ : ∃ q, m = q + 1 := ⟨m - 1, by omega⟩
    obtain ⟨s', a1, a2⟩ := ih (k + 1) m (upJ s 83 (vp_updL (s.2 83) k 0)) (by omega) (by omega) h63
    refine ⟨s', ?_, (Eb.rfl.upJ (by decide)).trans a2⟩
    rw [← a1]
    show bd_M_read_I_166 N (hd_M_read_I_166 N m) (nI k) s = _
    unfold bd_M_read_I_166
    rw [if_neg (show ¬ s.1 63 0 ≤ nI k by rw [h63]; exact nI_ge (by omega) (by omega)), if_neg (nI_in (show k < 1100 by omega) (by decide)), nI_clamp (by omega), nI_1]
/-- asserts of a circuit -/
def asn (A : ds) (m : Nat) : Nat := A.1 23 (m + 1) - A.1 23 m
def asS (A : ds) (L : Nat → ly) (k i : Nat) : Nat := sumF (fun e => asn A (L e).1) k i
/-- the reference's sums of what stands -/
def Cnt (A : ds) (s : ms) : Prop := s.1 75 0 = nI (A.1 46 0) ∧ s.1 76 0 = nI (A.1 28 (A.1 46 0 - 1)) ∧ s.1 77 0 = nI (inb A) ∧ s.1 78 0 = nI (A.1 31 (A.1 46 0 - 1)) ∧ s.2 79 0 = lN (A.1 27 (A.1 46 0 - 1))
variable {tk pl : Nat → Nat} {nt t : Nat} {A : ds} {L : Nat → ly} {ns la nc cl nl : Nat} {ord : List Nat} {s s' : ms}
theorem sum116 (hB : Bn A) (hJ : JB A) (hL : Ly A L n ns) (hn : n ≤ 257) : ∀ (j k m acc : Nat) (s : ms), k + j = n → j < m → MTb A la nc s → s.1 56 0 = nI n → (∀ i, i < n → s.1 57 i = nI (L i).1) → s.1 78 0 = nI acc → acc + 6100 * j ≤ 6100 * 257 → ∃ s', hd_M_sumUp_116 N m (nI k) s = some ((), s') ∧ Eb [78] [] s s' ∧ s'.1 78 0 = nI (acc + asS A L j k) := by
  have b := hB.2
  intro j
  induction j with
  | zero =>
    intro k m acc s h1 h2 hT h56 h57 h78 hacc
    obtain ⟨m, rfl⟩ : ∃ q, m = q + 1 := ⟨m - 1, by omega⟩
    refine ⟨s, ?_, Eb.rfl, by rw [h78]; rfl⟩
    show bd_M_sumUp_116 N (hd_M_sumUp_116 N m) (nI k) s = _
    unfold bd_M_sumUp_116
    rw [if_pos (show s.1 56 0 ≤ nI k by rw [h56]; exact nI_le (by omega) (by omega))]
  | succ j ih =>
    intro k m acc s h1 h2 hT h56 h57 h78 hacc
    obtain ⟨m, rfl⟩ : ∃ q, m = q + 1 := ⟨m - 1, by omega⟩
    have lk := (hL.2.2.2 k (by omega)).1
    have p := hJ.p345 lk
    have t16 := (hT.2.2 (L k).1 (by omega)).2.2.1
    have t16' := (hT.2.2 ((L k).1 + 1) (by omega)).2.2.1
    have as : asn A (L k).1 = A.1 23 ((L k).1 + 1) - A.1 23 (L k).1 := rfl
    have e : Eb [78] [] s (upI s 78 (fun _ => nI (acc + asn A (L k).1))) := Eb.rfl.upI (by decide)
    obtain ⟨s', a1, a2, a3⟩ := ih (k + 1) m (acc + asn A (L k).1) (upI s 78 (fun _ => nI (acc + asn A (L k).1))) (by omega) (by omega) (hT.keep e (by decide) (by decide)) h56 h57 rfl (by omega)
    refine ⟨s', ?_, e.trans a2, ?_⟩
    · rw [← a1]
      show bd_M_sumUp_116 N (hd_M_sumUp_116 N m) (nI k) s = _
      unfold bd_M_sumUp_116
      rw [if_neg (show ¬ s.1 56 0 ≤ nI k by rw [h56]; exact nI_ge (by omega) (by omega)), if_neg (nI_in (show k < 260 by omega) (by decide)), nI_clamp (by omega), h57 k (by omega), nI_1 (L k).1, if_neg (nI_in (show (L k).1 + 1 < 3601 by omega) (by decide)), if_neg (nI_in (show (L k).1 < 3601 by omega) (by decide)), nI_clamp (by omega), nI_clamp (by omega), t16, t16', h78, nI_add, nI_sub (by omega), nI_1 k, show acc + A.1 23 ((L k).1 + 1) - A.1 23 (L k).1 = acc + asn A (L k).1 by omega]
    · rw [a3, Nat.add_assoc]
      rfl
theorem sum43 (hB : Bn A) (hJ : JB A) (hWF : WF tk nt A t) (hns : own A (A.1 46 0 - 1) ≤ 1024) : ∀ (j k m acc : Nat) (s : ms), k + j = own A (A.1 46 0 - 1) → j < m → MTb A la nc s → (∀ q, q < own A (A.1 46 0 - 1) → s.1 64 q = nI (A.1 21 (A.1 46 0 - 1) + q)) → s.1 77 0 = nI acc → acc + 64 * j ≤ 64 * 1024 → ∃ s', hd_M_sumUp_43 N m (nI (A.1 46 0 - 1)) (nI k) s = hd_M_sumUp_116 N N 0 (upI s' 78 (fun _ => 0)) ∧ Eb [77] [] s s' ∧ s'.1 77 0 = nI (acc + inS A j (A.1 21 (A.1 46 0 - 1) + k)) := by
  have b := hB.2
  have b0 := hB.1
  have hm : A.1 46 0 - 1 < A.1 46 0 := by omega
  have r := hJ.r21 hm
  intro j
  induction j with
  | zero =>
    intro k m acc s h1 h2 hT h64 h77 hacc
    obtain ⟨m, rfl⟩ : ∃ q, m = q + 1 := ⟨m - 1, by omega⟩
    have t14 := (hT.2.2 (A.1 46 0 - 1) (by omega)).1
    have t14' := (hT.2.2 (A.1 46 0 - 1 + 1) (by omega)).1
    refine ⟨s, ?_, Eb.rfl, by rw [h77]; rfl⟩
    show bd_M_sumUp_43 N (hd_M_sumUp_43 N m) (nI (A.1 46 0 - 1)) (nI k) s = _
    unfold bd_M_sumUp_43
    rw [nI_1 (A.1 46 0 - 1), if_neg (nI_in (show A.1 46 0 - 1 + 1 < 3601 by omega) (by decide)), if_neg (nI_in (show A.1 46 0 - 1 < 3601 by omega) (by decide)), nI_clamp (by omega), nI_clamp (by omega), t14, t14', nI_sub (by omega), if_pos (nI_le (by omega) (by omega))]
  | succ j ih =>
    intro k m acc s h1 h2 hT h64 h77 hacc
    obtain ⟨m, rfl⟩ : ∃ q, m = q + 1 := ⟨m - 1, by omega⟩
    have t14 := (hT.2.2 (A.1 46 0 - 1) (by omega)).1
    have t14' := (hT.2.2 (A.1 46 0 - 1 + 1) (by omega)).1
    have kd : A.1 21 (A.1 46 0 - 1) + k < A.1 40 0 := by omega
    have dt := hT.1.2.1 _ kd
    have wf := hWF.2.1 _ kd
    have step : ∀ acc', acc' = acc + (if A.1 2 (A.1 21 (A.1 46 0 - 1) + k) = 0 then A.1 1 (A.1 21 (A.1 46 0 - 1) + k) else 0) → ∃ s', hd_M_sumUp_43 N m (nI (A.1 46 0 - 1)) (nI (k + 1)) (upI s 77 (fun _ => nI acc')) = hd_M_sumUp_116 N N 0 (upI s' 78 (fun _ => 0)) ∧ Eb [77] [] s s' ∧ s'.1 77 0 = nI (acc + inS A (j + 1) (A.1 21 (A.1 46 0 - 1) + k)) := fun acc' ha => by
      have e : Eb [77] [] s (upI s 77 (fun _ => nI acc')) := Eb.rfl.upI (by decide)
      have le : acc' ≤ acc + 64 := by rw [ha]; split <;> omega
      obtain ⟨s', a1, a2, a3⟩ := ih (k + 1) m acc' (upI s 77 (fun _ => nI acc')) (by omega) (by omega) (hT.keep e (by decide) (by decide)) h64 rfl (by omega)
      refine ⟨s', a1, e.trans a2, ?_⟩
      rw [a3, ha, show A.1 21 (A.1 46 0 - 1) + (k + 1) = A.1 21 (A.1 46 0 - 1) + k + 1 by omega, Nat.add_assoc]
      rfl
    show ∃ s', bd_M_sumUp_43 N (hd_M_sumUp_43 N m) (nI (A.1 46 0 - 1)) (nI k) s = _ ∧ _
    unfold bd_M_sumUp_43 bk_M_sumUp_100
    rw [nI_1 (A.1 46 0 - 1), if_neg (nI_in (show A.1 46 0 - 1 + 1 < 3601 by omega) (by decide)), if_neg (nI_in (show A.1 46 0 - 1 < 3601 by omega) (by decide)), nI_clamp (by omega), nI_clamp (by omega), t14, t14', nI_sub (by omega), if_neg (nI_ge (by omega) (by omega)), if_neg (nI_in (show k < 1100 by omega) (by decide)), nI_clamp (by omega), h64 k (by omega), if_neg (nI_in (show A.1 21 (A.1 46 0 - 1) + k < 11000 by omega) (by decide)), nI_clamp (by omega), dt.2.2.1, dt.2.1, h77, nI_1 k]
    by_cases c : A.1 2 (A.1 21 (A.1 46 0 - 1) + k) = 0
    · obtain ⟨s', a1, a2, a3⟩ := step (acc + A.1 1 (A.1 21 (A.1 46 0 - 1) + k)) (by rw [if_pos c])
      rw [c, if_pos (show nI 0 = 0 from rfl), if_neg (nI_in2 (show k < 1100 by omega) (by decide)), if_neg (nI_in2 (show A.1 21 (A.1 46 0 - 1) + k < 11000 by omega) (by decide)), nI_add]
      exact ⟨s', a1, a2, a3⟩
    · obtain ⟨s', a1, a2, a3⟩ := step acc (by rw [if_neg c]; rfl)
      rw [if_neg (show ¬ nI (A.1 2 (A.1 21 (A.1 46 0 - 1) + k)) = 0 from fun z => c ((nI_eq (b := 0) (by omega) (by omega)).mp z))]
      exact ⟨s', a1, a2, a3⟩
theorem sumF_app {f : Nat → Nat} : ∀ {a b i : Nat}, sumF f (a + b) i = sumF f a i + sumF f b (i + a)
  | 0, b, i => by rw [Nat.zero_add]; show _ = 0 + _; rw [Nat.zero_add]; rfl
  | a + 1, b, i => by
    rw [show a + 1 + b = a + b + 1 by omega]
    show f i + sumF f (a + b) (i + 1) = f i + sumF f a (i + 1) + _
    rw [sumF_app (a := a), show i + 1 + a = i + (a + 1) by omega]
    omega
/-- the asserts of what is within: a module's sum -/
theorem asS_blk (hJ : JB A) (hL : Ly A L n ns) : ∀ (m i : Nat), i < n → (L i).1 = m → asS A L (A.1 30 m + 1) i = A.1 31 m := by
  intro m
  induction m using Nat.strongRecOn with
  | ind m ih =>
    intro i hi hm
    have hl := hL.2.2.2 i hi
    have lm : m < A.1 46 0 := by rw [← hm]; exact hl.1
    have sm := (hJ.sums lm).1
    have h31 := (hJ.1.1.2.2.2.2.2.2.2.1 m lm).2.2.2
    have itm : itn A m = A.1 22 (m + 1) - A.1 22 m := rfl
    -- items, one after the other
    have go : ∀ j, j ≤ itn A m → sumF (fun e => asn A (L e).1) (ofI A m j) (i + 1) = sumF (fun e => A.1 31 (A.1 10 e)) j (A.1 22 m) := by
      intro j
      induction j with
      | zero => intro _; rfl
      | succ j ihj =>
        intro hj
        have lj := hL.2.2.2 i hi
        have e := lj.2.2.2.1 j (by rw [hm]; omega)
        rw [hm] at e
        have it := hJ.item lm (show j < itn A m by omega)
        have eo : ofI A m (j + 1) = ofI A m j + (A.1 30 (A.1 10 (A.1 22 m + j)) + 1) := by unfold ofI; rw [sumF_last]
        have kl : i + 1 + ofI A m j < n := by
          have := hL.kid hJ hi (j := j) (by rw [hm]; omega)
          rw [hm] at this
          omega
        have b := ih (A.1 10 (A.1 22 m + j)) it.2.1 (i + 1 + ofI A m j) kl (by rw [e])
        rw [eo, sumF_app, ihj (by omega), sumF_last (f := fun e => A.1 31 (A.1 10 e))]
        unfold asS at b
        rw [b]
    have := go (itn A m) (Nat.le_refl _)
    rw [sm] at this
    unfold asS
    rw [Nat.add_comm (A.1 30 m) 1, sumF_app, show sumF (fun e => asn A (L e).1) 1 i = asn A (L i).1 from by show asn A (L i).1 + 0 = _; rw [Nat.add_zero], this, hm, h31, itm]
    rfl
theorem sumUp_M (hN : 13002 < N) (hJ : JB A) (hB : Bn A) (hWF : WF tk nt A t) (hL : Ly A L n ns) (hM : MMs A L n ns la nc cl nl ord s) (hl : lim A = 0) : ∃ s', fn_M_sumUp N s = some ((), s') ∧ Eb [75, 76, 77, 78] [79] s s' ∧ Cnt A s' := by
  obtain ⟨m1, ⟨m2, m3, m4, m5⟩, -, hT, hW, -⟩ := hM
  have b := hB.2
  have b0 := hB.1
  have hm : A.1 46 0 - 1 < A.1 46 0 := by omega
  obtain ⟨M, hMM⟩ : ∃ M, A.1 46 0 = M + 1 := ⟨A.1 46 0 - 1, by omega⟩
  have r := hJ.r21 hm
  have l0 := (hL.2.2.2 0 hL.1).2.2.1
  have L0 : (L 0).1 = A.1 46 0 - 1 := by have := hL.2.1.1; omega
  have L1 : (L 0).2.1 = 0 := hL.2.2.1
  have own_le : own A (A.1 46 0 - 1) ≤ 1024 := by
    have := (hJ.sums hm).2
    rw [L0, L1] at l0
    omega
  obtain ⟨t13, t45, t46, t47, t48⟩ := hT.1.2.2.2.2.2 _ hm
  have small : A.1 28 (A.1 46 0 - 1) ≤ 12 ∧ A.1 27 (A.1 46 0 - 1) ≤ 1500 := by
    unfold lim at hl
    split at hl
    · cases hl
    split at hl
    · cases hl
    split at hl
    · cases hl
    split at hl
    · cases hl
    split at hl
    · cases hl
    omega
  have h12 : s.1 12 0 = nI (A.1 46 0) := hT.1.1.1
  have sub1 : nI (A.1 46 0) - 1 = nI (A.1 46 0 - 1) := by
    rw [show A.1 46 0 - 1 = M by omega, hMM]
    exact s1_nI
  unfold fn_M_sumUp
  rw [h12, sub1, if_neg (nI_in (show A.1 46 0 - 1 < 3600 by omega) (by decide)), if_neg (nI_in (show A.1 46 0 - 1 < 3600 by omega) (by decide)), nI_clamp (by omega), t48, t45, mst_id (by omega), mst_id (by omega), l32]
  have e1 : Eb [75, 76, 77] [79] s (upI (upJ (upI (upI s 75 (fun _ => nI (A.1 46 0))) 76 (fun _ => nI (A.1 28 (A.1 46 0 - 1)))) 79 (fun _ => lN (A.1 27 (A.1 46 0 - 1)))) 77 (fun _ => 0)) := (((Eb.rfl.upI (by decide)).upI (by decide)).upJ (by decide)).upI (by decide)
  have r75 : (upI (upJ (upI (upI s 75 (fun _ => nI (A.1 46 0))) 76 (fun _ => nI (A.1 28 (A.1 46 0 - 1)))) 79 (fun _ => lN (A.1 27 (A.1 46 0 - 1)))) 77 (fun _ => 0)).1 75 0 = nI (A.1 46 0) := rfl
  have r76 : (upI (upJ (upI (upI s 75 (fun _ => nI (A.1 46 0))) 76 (fun _ => nI (A.1 28 (A.1 46 0 - 1)))) 79 (fun _ => lN (A.1 27 (A.1 46 0 - 1)))) 77 (fun _ => 0)).1 76 0 = nI (A.1 28 (A.1 46 0 - 1)) := rfl
  have r77 : (upI (upJ (upI (upI s 75 (fun _ => nI (A.1 46 0))) 76 (fun _ => nI (A.1 28 (A.1 46 0 - 1)))) 79 (fun _ => lN (A.1 27 (A.1 46 0 - 1)))) 77 (fun _ => 0)).1 77 0 = nI 0 := rfl
  have r79 : (upI (upJ (upI (upI s 75 (fun _ => nI (A.1 46 0))) 76 (fun _ => nI (A.1 28 (A.1 46 0 - 1)))) 79 (fun _ => lN (A.1 27 (A.1 46 0 - 1)))) 77 (fun _ => 0)).2 79 0 = lN (A.1 27 (A.1 46 0 - 1)) := rfl
  generalize upI (upJ (upI (upI s 75 (fun _ => nI (A.1 46 0))) 76 (fun _ => nI (A.1 28 (A.1 46 0 - 1)))) 79 (fun _ => lN (A.1 27 (A.1 46 0 - 1)))) 77 (fun _ => 0) = s1 at *
  obtain ⟨s2, a1, a2, a3⟩ := sum43 (N := N) hB hJ hWF own_le (own A (A.1 46 0 - 1)) 0 N 0 s1 (by omega) (by omega) (hT.keep e1 (by decide) (by decide)) (fun q hq => by
    rw [e1.1 64 (by decide)]
    have := ((hW 0 hL.1).2.2.2.2 q (by rw [L0]; exact hq)).1
    rw [L0, L1, Nat.zero_add] at this
    exact this) r77 (by omega)
  rw [show hd_M_sumUp_43 N N (nI (A.1 46 0 - 1)) 0 s1 = hd_M_sumUp_43 N N (nI (A.1 46 0 - 1)) (nI 0) s1 from rfl, a1]
  have e3 : Eb [75, 76, 77, 78] [79] s (upI s2 78 (fun _ => 0)) := ((e1.mono (by decide) (by decide)).trans (a2.mono (by decide) (by decide))).upI (by decide)
  obtain ⟨s3, c1, c2, c3⟩ := sum116 (N := N) (la := la) (nc := nc) hB hJ hL m5 n 0 N 0 (upI s2 78 (fun _ => 0)) (by omega) (by omega) (hT.keep e3 (by decide) (by decide)) (by rw [e3.1 56 (by decide)]; exact m4) (fun i hi => by rw [e3.1 57 (by decide)]; exact (hW i hi).1) rfl (by omega)
  rw [show hd_M_sumUp_116 N N 0 (upI s2 78 (fun _ => 0)) = hd_M_sumUp_116 N N (nI 0) (upI s2 78 (fun _ => 0)) from rfl, c1]
  have nn : n = A.1 30 (A.1 46 0 - 1) + 1 := by rw [← L0]; exact hL.2.1.2.1
  have tot := asS_blk hJ hL (A.1 46 0 - 1) 0 hL.1 L0
  rw [← nn] at tot
  have e23 : Eb [78] [] s2 s3 := (Eb.rfl.upI (by decide)).trans c2
  refine ⟨s3, rfl, e3.trans (c2.mono (by decide) (by decide)), ?_, ?_, ?_, ?_, ?_⟩
  · rw [e23.1 75 (by decide), a2.1 75 (by decide), r75]
  · rw [e23.1 76 (by decide), a2.1 76 (by decide), r76]
  · rw [e23.1 77 (by decide), a3, Nat.zero_add, Nat.add_zero]
    rfl
  · rw [c3, Nat.zero_add, tot]
  · rw [e23.2 79 (by decide), a2.2 79 (by decide), r79]
end MREAD
