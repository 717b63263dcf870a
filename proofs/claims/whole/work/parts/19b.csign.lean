/-! Signs of the class. -/
theorem pair_C : ∀ {N c d : Nat} {s : ms}, c < 256 → d < 257 → fn_Scanner_pair N (kch c) (kch d) s = some (if cpair c d = 0 then -1 else nI (kap (cpair c d)), s) := by
  intro N c d s hc hd
  have q : ∀ e : Nat, e < 128 → ((kch c = nI e) = (c = e)) := fun e he => kq (by omega) e he
  have r : ∀ e : Nat, e < 128 → ((kch d = nI e) = (d = e)) := fun e he => kq hd e he
  have key : kch c = kch d → c < 128 → c = d := fun h1 h2 => ((r c h2).mp (h1.symm.trans (if_pos h2))).symm
  have e33 : (kch c = (33 : Int32)) = (c = 33) := q 33 (by decide)
  have e38 : (kch c = (38 : Int32)) = (c = 38) := q 38 (by decide)
  have e60 : (kch c = (60 : Int32)) = (c = 60) := q 60 (by decide)
  have e61 : (kch c = (61 : Int32)) = (c = 61) := q 61 (by decide)
  have e62 : (kch c = (62 : Int32)) = (c = 62) := q 62 (by decide)
  have e124 : (kch c = (124 : Int32)) = (c = 124) := q 124 (by decide)
  have f61 : (kch d = (61 : Int32)) = (d = 61) := r 61 (by decide)
  unfold fn_Scanner_pair
  simp only [e33, e38, e60, e61, e62, e124, f61]
  by_cases c61 : d = 61
  · subst c61
    rw [if_pos rfl]
    by_cases a1 : c = 33
    · subst a1; rfl
    rw [if_neg a1]
    by_cases a2 : c = 60
    · subst a2; rfl
    rw [if_neg a2]
    by_cases a3 : c = 61
    · subst a3; rfl
    rw [if_neg a3]
    by_cases a4 : c = 62
    · subst a4; rfl
    rw [if_neg a4]
    have : cpair c 61 = 0 := by unfold cpair; simp [a1, a2, a3, a4]
    rw [this]; rfl
  · rw [if_neg c61]
    by_cases cd : kch c = kch d
    · rw [if_pos cd]
      by_cases a1 : c = 38
      · have := key cd (by omega)
        subst this; subst a1; rfl
      rw [if_neg a1]
      by_cases a2 : c = 60
      · have := key cd (by omega)
        subst this; subst a2; rfl
      rw [if_neg a2]
      by_cases a3 : c = 62
      · have := key cd (by omega)
        subst this; subst a3; rfl
      rw [if_neg a3]
      by_cases a4 : c = 124
      · have := key cd (by omega)
        subst this; subst a4; rfl
      rw [if_neg a4]
      have : cpair c d = 0 := by unfold cpair; simp [a1, a2, a3, a4, c61]
      rw [this]; rfl
    · rw [if_neg cd]
      have ne : c ≠ d := fun z => cd (by rw [z])
      have : cpair c d = 0 := by
        unfold cpair
        have n1 : ¬ (c = 38 ∧ d = 38) := by omega
        have n2 : ¬ (c = 124 ∧ d = 124) := by omega
        have n3 : ¬ (c = 60 ∧ d = 60) := by omega
        have n4 : ¬ (c = 62 ∧ d = 62) := by omega
        simp [n1, n2, n3, n4, c61]
      rw [this]; rfl
def sgN (j : Nat) : Nat := (dc_sg j).toNatClampNeg
theorem sg_at : ∀ j : Fin 23, dc_sg j.1 = nI (sgN j.1) ∧ sgN j.1 < 128 := by decide +kernel
/-- the place of a sign among the signs -/
def sgx (c : Nat) : Nat → Nat → Int32
  | 0, _ => -1
  | f + 1, j => if sgN j = c then nI j else sgx c f (j + 1)
theorem idx_C {N c : Nat} {s : ms} (hc : c < 128) : ∀ (f m j : Nat), j + f = 23 → f < m → hd_StringLatin1_indexOfChar_SGB_7 N m 23 (nI c) (nI j) s = some (sgx c f j, s) := by
  intro f
  induction f with
  | zero =>
    intro m j e hm
    obtain ⟨m, rfl⟩ : ∃ m', m = m' + 1 := ⟨m - 1, by omega⟩
    obtain rfl : j = 23 := by omega
    show bd_StringLatin1_indexOfChar_SGB_7 N _ 23 (nI c) (nI 23) s = _
    unfold bd_StringLatin1_indexOfChar_SGB_7
    rw [if_pos (by decide)]; rfl
  | succ f ih =>
    intro m j e hm
    obtain ⟨m, rfl⟩ : ∃ m', m = m' + 1 := ⟨m - 1, by omega⟩
    have hj : j < 23 := by omega
    obtain ⟨a1, a2⟩ := sg_at ⟨j, hj⟩
    dsimp only at a1 a2
    show bd_StringLatin1_indexOfChar_SGB_7 N (hd_StringLatin1_indexOfChar_SGB_7 N m) 23 (nI c) (nI j) s = _
    unfold bd_StringLatin1_indexOfChar_SGB_7 sgx
    rw [if_neg (show ¬ (23 : Int32) ≤ nI j from nI_ge (b := 23) hj (by decide)), if_neg (nI_in hj (by decide)), nI_clamp (by omega), a1, nI_1]
    by_cases c1 : sgN j = c
    · rw [if_pos (by rw [c1]), if_pos c1]
    · rw [if_neg (fun q => c1 ((nI_eq (by omega) (by omega)).mp q)), if_neg c1]
      exact ih m (j + 1) (by omega) (by omega)
theorem sgx_is : ∀ c : Fin 128, (0 ≤ sgx c.1 23 0) = (csign c.1 = true) := by decide +kernel
theorem chr_is : ∀ c : Fin 128, (Int32.toUInt32 (kch c.1) % 65536).toInt32 = nI c.1 ∧ (Int32.toInt8 (nI c.1)).toInt32 = nI c.1 := by decide +kernel
theorem indexOf_C {N c : Nat} {s : ms} (hN : 24 ≤ N) (hc : c < 128) : ∃ x : Int32, fn_String_indexOf_II_SG N ((Int32.toUInt32 (kch c) % 65536).toInt32) s = some (x, s) ∧ ((0 ≤ x) = (csign c = true)) := by
  obtain ⟨k1, k2⟩ := chr_is ⟨c, hc⟩
  dsimp only at k1 k2
  refine ⟨sgx c 23 0, ?_, sgx_is ⟨c, hc⟩⟩
  rw [k1]
  unfold fn_String_indexOf_II_SG fn_String_indexOf_III_SG fn_StringLatin1_indexOf_SGB fn_StringLatin1_canEncode fn_StringLatin1_indexOfChar_SGB
  rw [show fn_String_length_SG N s = some (23, s) from rfl, ex_bind rfl]
  dsimp only
  rw [if_neg (nI_pos (by omega)), if_neg (show ¬ (255 : Int32) < nI c from nI_nlt (a := 255) (b := c) (by omega) (by decide)), ex_bind rfl]
  dsimp only
  rw [if_neg (show ¬ (1 : Int32) = 0 by decide), if_pos (show (if (0 : Int32) < 0 then (0 : Int32) else 0) < (if (23 : Int32) < 23 then (23 : Int32) else 23) by decide), k2]
  have := idx_C (N := N) (s := s) hc 23 N 0 rfl (by omega)
  rw [show (if (0 : Int32) < 0 then (0 : Int32) else 0) = nI 0 from by decide, show (if (23 : Int32) < 23 then (23 : Int32) else 23) = 23 from by decide, this]
  rfl
