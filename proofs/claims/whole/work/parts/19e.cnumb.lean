/-! Numbers of the class: the whole token. -/
/-- a sized number from its first digit on: k the quote -/
def sizedOk (ch : Nat → Nat) (fr k to : Nat) : Prop := alld ch 10 (k - fr) fr = true ∧ 1 ≤ dval ch 10 (k - fr) fr 0 ∧ dval ch 10 (k - fr) fr 0 ≤ 64 ∧ k + 2 < to ∧ nbase (ch (k + 1)) ≠ 0 ∧ alld ch (nbase (ch (k + 1))) (to - (k + 2)) (k + 2) = true ∧ dval ch (nbase (ch (k + 1))) (to - (k + 2)) (k + 2) 0 < 2 ^ dval ch 10 (k - fr) fr 0
theorem sized_C {N n fr k to : Nat} {ch : Nat → Nat} {s : ms} (h : Txt s n ch) (hN : n < N) (h1 : fr ≤ k) (h2 : k < to) (hto : to ≤ n) : (sizedOk ch fr k to → fn_Scanner_sized_Sc N (nI fr) (nI k) (nI to) s = szd N (nI fr) (dval ch 10 (k - fr) fr 0) (dval ch (nbase (ch (k + 1))) (to - (k + 2)) (k + 2) 0) s) ∧ (¬ sizedOk ch fr k to → fn_Scanner_sized_Sc N (nI fr) (nI k) (nI to) s = some (0, s)) := by
  have hn := h.2.1
  have lt1 := h.lt (k + 1)
  obtain ⟨V, hV⟩ : ∃ V, V = dval ch 10 (k - fr) fr 0 := ⟨_, rfl⟩
  have hd := decimal_C (N := N) (lim := 64) h hN h1 (by omega) (by decide)
  rw [← hV] at hd
  have q : ∀ e : Nat, e < 128 → ((kch (ch (k + 1)) = nI e) = (ch (k + 1) = e)) := fun e he => kq lt1 e he
  have q98 : (kch (ch (k + 1)) = (98 : Int32)) = (ch (k + 1) = 98) := q 98 (by decide)
  have q100 : (kch (ch (k + 1)) = (100 : Int32)) = (ch (k + 1) = 100) := q 100 (by decide)
  have q104 : (kch (ch (k + 1)) = (104 : Int32)) = (ch (k + 1) = 104) := q 104 (by decide)
  have q111 : (kch (ch (k + 1)) = (111 : Int32)) = (ch (k + 1) = 111) := q 111 (by decide)
  have run : ∀ (base sh most : Nat), nbase (ch (k + 1)) = base → 2 ≤ base → base ≤ 16 → sh < 10 → most < 2 ^ 63 → (∀ A d : Nat, A < 2 ^ 64 → d < base → ((A < 2 ^ 63 ∧ A ≤ most ∧ ¬ (sh = 0 ∧ A = most ∧ 5 < d)) ↔ A * base + d < 2 ^ 64)) → k + 2 < to → 1 ≤ V → V ≤ 64 → alld ch 10 (k - fr) fr = true → (sizedOk ch fr k to → hd_Scanner_sized_Sc_86 N N (nI fr) (nI to) (nI V) (nI sh) (nI base) (lN most) 0 (nI k + 2) s = szd N (nI fr) V (dval ch (nbase (ch (k + 1))) (to - (k + 2)) (k + 2) 0) s) ∧ (¬ sizedOk ch fr k to → hd_Scanner_sized_Sc_86 N N (nI fr) (nI to) (nI V) (nI sh) (nI base) (lN most) 0 (nI k + 2) s = some (0, s)) := by
    intro base sh most hb b1 b2 b3 b4 b5 c5 v1 v2 al
    have e := sz86_C (N := N) (x1 := nI fr) (w := V) h hto v2 b1 b2 b3 b4 b5 (to - (k + 2)) N (k + 2) 0 (by omega) (by omega) (by decide)
    rw [show nI k + 2 = nI (k + 2) from nI_add k 2, show (0 : Int64) = lN 0 from rfl, e]
    unfold sizedOk
    rw [hb, ← hV]
    constructor
    · intro z
      rw [if_pos ⟨z.2.2.2.2.2.1, z.2.2.2.2.2.2⟩]
    · intro z
      rw [if_neg (fun y => z ⟨al, v1, v2, c5, by omega, y.1, y.2⟩)]
  rw [← hV]
  unfold fn_Scanner_sized_Sc
  rw [show (64 : Int32) = nI 64 from rfl, hd, ex_bind rfl]
  dsimp only
  rw [nI_1, byteAt_C h (by omega), ex_bind rfl]
  dsimp only
  have shf : ∃ (x : Int32), fn_Scanner_shiftOf N (kch (ch (k + 1))) s = some (x, s) ∧ ((ch (k + 1) = 98 ∧ x = 1) ∨ (ch (k + 1) = 100 ∧ x = 0) ∨ (ch (k + 1) = 104 ∧ x = 4) ∨ (ch (k + 1) = 111 ∧ x = 3) ∨ (nbase (ch (k + 1)) = 0 ∧ x = -1)) := by
    unfold fn_Scanner_shiftOf
    by_cases a1 : ch (k + 1) = 98
    · exact ⟨1, by rw [if_pos (q98.mpr a1)], Or.inl ⟨a1, rfl⟩⟩
    rw [if_neg (fun z => a1 (q98.mp z))]
    by_cases a2 : ch (k + 1) = 100
    · exact ⟨0, by rw [if_pos (q100.mpr a2)], Or.inr (Or.inl ⟨a2, rfl⟩)⟩
    rw [if_neg (fun z => a2 (q100.mp z))]
    by_cases a3 : ch (k + 1) = 104
    · exact ⟨4, by rw [if_pos (q104.mpr a3)], Or.inr (Or.inr (Or.inl ⟨a3, rfl⟩))⟩
    rw [if_neg (fun z => a3 (q104.mp z))]
    by_cases a4 : ch (k + 1) = 111
    · exact ⟨3, by rw [if_pos (q111.mpr a4)], Or.inr (Or.inr (Or.inr (Or.inl ⟨a4, rfl⟩)))⟩
    rw [if_neg (fun z => a4 (q111.mp z))]
    exact ⟨-1, rfl, Or.inr (Or.inr (Or.inr (Or.inr ⟨by unfold nbase; rw [if_neg a1, if_neg a4, if_neg a2, if_neg a3], rfl⟩)))⟩
  obtain ⟨x, hx, hor⟩ := shf
  rw [hx, ex_bind rfl]
  dsimp only
  by_cases cv : alld ch 10 (k - fr) fr = true ∧ V ≤ 64
  · rw [if_pos cv]
    by_cases c1 : 1 ≤ V
    · rw [if_neg (show ¬ nI V < (1 : Int32) from nI_nlt (b := 1) c1 (by omega))]
      by_cases c5 : k + 2 < to
      · have e2 : nI k + 2 < nI to := by rw [show nI k + 2 = nI (k + 2) from nI_add k 2]; exact nI_lt c5 (by omega)
        unfold bk_Scanner_sized_Sc_57 bk_Scanner_sized_Sc_76
        rcases hor with ⟨a, rfl⟩ | ⟨a, rfl⟩ | ⟨a, rfl⟩ | ⟨a, rfl⟩ | ⟨a, rfl⟩
        · rw [if_neg (by decide), if_pos e2, if_neg (by decide), if_neg (by decide)]
          rw [show (1 : Int32) <<< ((1 : Int32) &&& 31) = nI 2 from by decide, show ((Int64.toUInt64 (-1)) >>> ((Int32.toInt64 1).toUInt64 &&& Int64.toUInt64 63)).toInt64 = lN (2 ^ 63 - 1) from by decide +kernel]
          exact run 2 1 (2 ^ 63 - 1) (by unfold nbase; rw [if_pos a]) (by decide) (by decide) (by decide) (by decide) (fun A d hA hd2 => by omega) c5 c1 cv.2 cv.1
        · rw [if_neg (by decide), if_pos e2, if_pos rfl, if_pos rfl]
          exact run 10 0 1844674407370955161 (by rw [a]; rfl) (by decide) (by decide) (by decide) (by decide) (fun A d hA hd2 => by omega) c5 c1 cv.2 cv.1
        · rw [if_neg (by decide), if_pos e2, if_neg (by decide), if_neg (by decide)]
          rw [show (1 : Int32) <<< ((4 : Int32) &&& 31) = nI 16 from by decide, show ((Int64.toUInt64 (-1)) >>> ((Int32.toInt64 4).toUInt64 &&& Int64.toUInt64 63)).toInt64 = lN (2 ^ 60 - 1) from by decide +kernel]
          exact run 16 4 (2 ^ 60 - 1) (by rw [a]; rfl) (by decide) (by decide) (by decide) (by decide) (fun A d hA hd2 => by omega) c5 c1 cv.2 cv.1
        · rw [if_neg (by decide), if_pos e2, if_neg (by decide), if_neg (by decide)]
          rw [show (1 : Int32) <<< ((3 : Int32) &&& 31) = nI 8 from by decide, show ((Int64.toUInt64 (-1)) >>> ((Int32.toInt64 3).toUInt64 &&& Int64.toUInt64 63)).toInt64 = lN (2 ^ 61 - 1) from by decide +kernel]
          exact run 8 3 (2 ^ 61 - 1) (by rw [a]; rfl) (by decide) (by decide) (by decide) (by decide) (fun A d hA hd2 => by omega) c5 c1 cv.2 cv.1
        · rw [if_pos rfl]
          exact ⟨fun z => absurd a z.2.2.2.2.1, fun _ => rfl⟩
      · refine ⟨fun z => absurd z.2.2.2.1 c5, fun _ => ?_⟩
        by_cases cx : x = -1
        · rw [if_pos cx]
        · rw [if_neg cx, if_neg (by rw [show nI k + 2 = nI (k + 2) from nI_add k 2]; exact nI_nlt (by omega) (by omega))]
    · rw [if_pos (show nI V < (1 : Int32) from nI_lt (b := 1) (by omega) (by decide))]
      exact ⟨fun z => absurd (by rw [hV]; exact z.2.1) c1, fun _ => rfl⟩
  · rw [if_neg cv, if_pos (by decide)]
    exact ⟨fun z => absurd ⟨z.1, by rw [hV]; exact z.2.2.1⟩ cv, fun _ => rfl⟩
