/-! Signs and tokens (the reference). -/
theorem ite2 {α : Type} {p q : Prop} [Decidable p] [Decidable q] (a b : α) : (if p then (if q then a else b) else b) = if p ∧ q then a else b := by
  by_cases hp : p
  · by_cases hq : q
    · rw [if_pos hp, if_pos hq, if_pos ⟨hp, hq⟩]
    · rw [if_pos hp, if_neg hq, if_neg (fun z => hq z.2)]
  · rw [if_neg hp, if_neg (fun z => hp z.1)]
theorem mq {c : Nat} (hc : c < 257) (d : Nat) (hd : d < 256) : (mch c = nI d) = (c = d) := propext (mch_eq hc hd)
theorem pr126_M {N c d : Nat} {s : ms} (hc : c < 257) (hd : d < 257) : bk_M_pair_126 N (mch c) (mch d) s = some (nI (if c = 62 ∧ d = 62 then 263 else 0), s) := by
  unfold bk_M_pair_126
  have e1 : (mch c = (62 : Int32)) = (c = 62) := mq hc 62 (by decide)
  have e2 : (mch d = (62 : Int32)) = (d = 62) := mq hd 62 (by decide)
  simp only [e1, e2]
  rw [ite2]
  by_cases z : c = 62 ∧ d = 62
  · rw [if_pos z, if_pos z]; rfl
  · rw [if_neg z, if_neg z]; rfl
theorem pr108_M {N c d : Nat} {s : ms} (hc : c < 257) (hd : d < 257) : bk_M_pair_108 N (mch c) (mch d) s = some (nI (if c = 60 ∧ d = 60 then 262 else (if c = 62 ∧ d = 62 then 263 else 0)), s) := by
  unfold bk_M_pair_108
  rw [pr126_M hc hd]
  have e1 : (mch c = (60 : Int32)) = (c = 60) := mq hc 60 (by decide)
  have e2 : (mch d = (60 : Int32)) = (d = 60) := mq hd 60 (by decide)
  simp only [e1, e2]
  rw [ite2]
  by_cases z : c = 60 ∧ d = 60
  · rw [if_pos z, if_pos z]; rfl
  · rw [if_neg z, if_neg z]
theorem pr90_M {N c d : Nat} {s : ms} (hc : c < 257) (hd : d < 257) : bk_M_pair_90 N (mch c) (mch d) s = some (nI (if c = 62 ∧ d = 61 then 261 else (if c = 60 ∧ d = 60 then 262 else (if c = 62 ∧ d = 62 then 263 else 0))), s) := by
  unfold bk_M_pair_90
  rw [pr108_M hc hd]
  have e1 : (mch c = (62 : Int32)) = (c = 62) := mq hc 62 (by decide)
  have e2 : (mch d = (61 : Int32)) = (d = 61) := mq hd 61 (by decide)
  simp only [e1, e2]
  rw [ite2]
  by_cases z : c = 62 ∧ d = 61
  · rw [if_pos z, if_pos z]; rfl
  · rw [if_neg z, if_neg z]
theorem pr72_M {N c d : Nat} {s : ms} (hc : c < 257) (hd : d < 257) : bk_M_pair_72 N (mch c) (mch d) s = some (nI (if c = 60 ∧ d = 61 then 260 else (if c = 62 ∧ d = 61 then 261 else (if c = 60 ∧ d = 60 then 262 else (if c = 62 ∧ d = 62 then 263 else 0)))), s) := by
  unfold bk_M_pair_72
  rw [pr90_M hc hd]
  have e1 : (mch c = (60 : Int32)) = (c = 60) := mq hc 60 (by decide)
  have e2 : (mch d = (61 : Int32)) = (d = 61) := mq hd 61 (by decide)
  simp only [e1, e2]
  rw [ite2]
  by_cases z : c = 60 ∧ d = 61
  · rw [if_pos z, if_pos z]; rfl
  · rw [if_neg z, if_neg z]
theorem pr54_M {N c d : Nat} {s : ms} (hc : c < 257) (hd : d < 257) : bk_M_pair_54 N (mch c) (mch d) s = some (nI (if c = 33 ∧ d = 61 then 259 else (if c = 60 ∧ d = 61 then 260 else (if c = 62 ∧ d = 61 then 261 else (if c = 60 ∧ d = 60 then 262 else (if c = 62 ∧ d = 62 then 263 else 0))))), s) := by
  unfold bk_M_pair_54
  rw [pr72_M hc hd]
  have e1 : (mch c = (33 : Int32)) = (c = 33) := mq hc 33 (by decide)
  have e2 : (mch d = (61 : Int32)) = (d = 61) := mq hd 61 (by decide)
  simp only [e1, e2]
  rw [ite2]
  by_cases z : c = 33 ∧ d = 61
  · rw [if_pos z, if_pos z]; rfl
  · rw [if_neg z, if_neg z]
theorem pr36_M {N c d : Nat} {s : ms} (hc : c < 257) (hd : d < 257) : bk_M_pair_36 N (mch c) (mch d) s = some (nI (if c = 61 ∧ d = 61 then 258 else (if c = 33 ∧ d = 61 then 259 else (if c = 60 ∧ d = 61 then 260 else (if c = 62 ∧ d = 61 then 261 else (if c = 60 ∧ d = 60 then 262 else (if c = 62 ∧ d = 62 then 263 else 0)))))), s) := by
  unfold bk_M_pair_36
  rw [pr54_M hc hd]
  have e1 : (mch c = (61 : Int32)) = (c = 61) := mq hc 61 (by decide)
  have e2 : (mch d = (61 : Int32)) = (d = 61) := mq hd 61 (by decide)
  simp only [e1, e2]
  rw [ite2]
  by_cases z : c = 61 ∧ d = 61
  · rw [if_pos z, if_pos z]; rfl
  · rw [if_neg z, if_neg z]
theorem pr18_M {N c d : Nat} {s : ms} (hc : c < 257) (hd : d < 257) : bk_M_pair_18 N (mch c) (mch d) s = some (nI (if c = 124 ∧ d = 124 then 257 else (if c = 61 ∧ d = 61 then 258 else (if c = 33 ∧ d = 61 then 259 else (if c = 60 ∧ d = 61 then 260 else (if c = 62 ∧ d = 61 then 261 else (if c = 60 ∧ d = 60 then 262 else (if c = 62 ∧ d = 62 then 263 else 0))))))), s) := by
  unfold bk_M_pair_18
  rw [pr36_M hc hd]
  have e1 : (mch c = (124 : Int32)) = (c = 124) := mq hc 124 (by decide)
  have e2 : (mch d = (124 : Int32)) = (d = 124) := mq hd 124 (by decide)
  simp only [e1, e2]
  rw [ite2]
  by_cases z : c = 124 ∧ d = 124
  · rw [if_pos z, if_pos z]; rfl
  · rw [if_neg z, if_neg z]
theorem pr0_M {N c d : Nat} {s : ms} (hc : c < 257) (hd : d < 257) : fn_M_pair N (mch c) (mch d) s = some (nI (if c = 38 ∧ d = 38 then 256 else (if c = 124 ∧ d = 124 then 257 else (if c = 61 ∧ d = 61 then 258 else (if c = 33 ∧ d = 61 then 259 else (if c = 60 ∧ d = 61 then 260 else (if c = 62 ∧ d = 61 then 261 else (if c = 60 ∧ d = 60 then 262 else (if c = 62 ∧ d = 62 then 263 else 0)))))))), s) := by
  unfold fn_M_pair
  rw [pr18_M hc hd]
  have e1 : (mch c = (38 : Int32)) = (c = 38) := mq hc 38 (by decide)
  have e2 : (mch d = (38 : Int32)) = (d = 38) := mq hd 38 (by decide)
  simp only [e1, e2]
  rw [ite2]
  by_cases z : c = 38 ∧ d = 38
  · rw [if_pos z, if_pos z]; rfl
  · rw [if_neg z, if_neg z]
def cpair (c d : Nat) : Nat := if c = 38 ∧ d = 38 then 256 else (if c = 124 ∧ d = 124 then 257 else (if c = 61 ∧ d = 61 then 258 else (if c = 33 ∧ d = 61 then 259 else (if c = 60 ∧ d = 61 then 260 else (if c = 62 ∧ d = 61 then 261 else (if c = 60 ∧ d = 60 then 262 else (if c = 62 ∧ d = 62 then 263 else 0)))))))
theorem pair_M {N c d : Nat} {s : ms} (hc : c < 257) (hd : d < 257) : fn_M_pair N (mch c) (mch d) s = some (nI (cpair c d), s) := pr0_M hc hd
def csign (c : Nat) : Bool := [43, 45, 42, 38, 124, 94, 126, 33, 60, 62, 63, 58, 59, 44, 46, 40, 41, 91, 93, 123, 125, 61, 64].contains c
theorem isSign_M {N c : Nat} {s : ms} (hc : c < 257) : fn_M_isSign N (mch c) s = some (b01 (csign c), s) := by
  by_cases hr : 33 ≤ c ∧ c ≤ 126
  · rcases (show c = 33 ∨ c = 34 ∨ c = 35 ∨ c = 36 ∨ c = 37 ∨ c = 38 ∨ c = 39 ∨ c = 40 ∨ c = 41 ∨ c = 42 ∨ c = 43 ∨ c = 44 ∨ c = 45 ∨ c = 46 ∨ c = 47 ∨ c = 48 ∨ c = 49 ∨ c = 50 ∨ c = 51 ∨ c = 52 ∨ c = 53 ∨ c = 54 ∨ c = 55 ∨ c = 56 ∨ c = 57 ∨ c = 58 ∨ c = 59 ∨ c = 60 ∨ c = 61 ∨ c = 62 ∨ c = 63 ∨ c = 64 ∨ c = 65 ∨ c = 66 ∨ c = 67 ∨ c = 68 ∨ c = 69 ∨ c = 70 ∨ c = 71 ∨ c = 72 ∨ c = 73 ∨ c = 74 ∨ c = 75 ∨ c = 76 ∨ c = 77 ∨ c = 78 ∨ c = 79 ∨ c = 80 ∨ c = 81 ∨ c = 82 ∨ c = 83 ∨ c = 84 ∨ c = 85 ∨ c = 86 ∨ c = 87 ∨ c = 88 ∨ c = 89 ∨ c = 90 ∨ c = 91 ∨ c = 92 ∨ c = 93 ∨ c = 94 ∨ c = 95 ∨ c = 96 ∨ c = 97 ∨ c = 98 ∨ c = 99 ∨ c = 100 ∨ c = 101 ∨ c = 102 ∨ c = 103 ∨ c = 104 ∨ c = 105 ∨ c = 106 ∨ c = 107 ∨ c = 108 ∨ c = 109 ∨ c = 110 ∨ c = 111 ∨ c = 112 ∨ c = 113 ∨ c = 114 ∨ c = 115 ∨ c = 116 ∨ c = 117 ∨ c = 118 ∨ c = 119 ∨ c = 120 ∨ c = 121 ∨ c = 122 ∨ c = 123 ∨ c = 124 ∨ c = 125 ∨ c = 126 by omega) with rfl | rfl | rfl | rfl | rfl | rfl | rfl | rfl | rfl | rfl | rfl | rfl | rfl | rfl | rfl | rfl | rfl | rfl | rfl | rfl | rfl | rfl | rfl | rfl | rfl | rfl | rfl | rfl | rfl | rfl | rfl | rfl | rfl | rfl | rfl | rfl | rfl | rfl | rfl | rfl | rfl | rfl | rfl | rfl | rfl | rfl | rfl | rfl | rfl | rfl | rfl | rfl | rfl | rfl | rfl | rfl | rfl | rfl | rfl | rfl | rfl | rfl | rfl | rfl | rfl | rfl | rfl | rfl | rfl | rfl | rfl | rfl | rfl | rfl | rfl | rfl | rfl | rfl | rfl | rfl | rfl | rfl | rfl | rfl | rfl | rfl | rfl | rfl | rfl | rfl | rfl | rfl | rfl | rfl <;> rfl
  · have ne : ∀ d : Nat, 33 ≤ d → d ≤ 126 → ¬ mch c = nI d := fun d h1 h2 q => hr (by have := (mch_eq hc (by omega)).mp q; omega)
    have hs : csign c = false := by
      simp only [csign, List.contains_eq_mem, decide_eq_false_iff_not, List.mem_cons, List.not_mem_nil, or_false]
      omega
    rw [hs]
    unfold fn_M_isSign
    rw [if_neg (show ¬ mch c = (33 : Int32) from ne 33 (by decide) (by decide)), if_neg (show ¬ mch c = (34 : Int32) from ne 34 (by decide) (by decide)), if_neg (show ¬ mch c = (35 : Int32) from ne 35 (by decide) (by decide)), if_neg (show ¬ mch c = (36 : Int32) from ne 36 (by decide) (by decide)), if_neg (show ¬ mch c = (37 : Int32) from ne 37 (by decide) (by decide)), if_neg (show ¬ mch c = (38 : Int32) from ne 38 (by decide) (by decide)), if_neg (show ¬ mch c = (39 : Int32) from ne 39 (by decide) (by decide)), if_neg (show ¬ mch c = (40 : Int32) from ne 40 (by decide) (by decide)), if_neg (show ¬ mch c = (41 : Int32) from ne 41 (by decide) (by decide)), if_neg (show ¬ mch c = (42 : Int32) from ne 42 (by decide) (by decide)), if_neg (show ¬ mch c = (43 : Int32) from ne 43 (by decide) (by decide)), if_neg (show ¬ mch c = (44 : Int32) from ne 44 (by decide) (by decide)), if_neg (show ¬ mch c = (45 : Int32) from ne 45 (by decide) (by decide)), if_neg (show ¬ mch c = (46 : Int32) from ne 46 (by decide) (by decide)), if_neg (show ¬ mch c = (47 : Int32) from ne 47 (by decide) (by decide)), if_neg (show ¬ mch c = (48 : Int32) from ne 48 (by decide) (by decide)), if_neg (show ¬ mch c = (49 : Int32) from ne 49 (by decide) (by decide)), if_neg (show ¬ mch c = (50 : Int32) from ne 50 (by decide) (by decide)), if_neg (show ¬ mch c = (51 : Int32) from ne 51 (by decide) (by decide)), if_neg (show ¬ mch c = (52 : Int32) from ne 52 (by decide) (by decide)), if_neg (show ¬ mch c = (53 : Int32) from ne 53 (by decide) (by decide)), if_neg (show ¬ mch c = (54 : Int32) from ne 54 (by decide) (by decide)), if_neg (show ¬ mch c = (55 : Int32) from ne 55 (by decide) (by decide)), if_neg (show ¬ mch c = (56 : Int32) from ne 56 (by decide) (by decide)), if_neg (show ¬ mch c = (57 : Int32) from ne 57 (by decide) (by decide)), if_neg (show ¬ mch c = (58 : Int32) from ne 58 (by decide) (by decide)), if_neg (show ¬ mch c = (59 : Int32) from ne 59 (by decide) (by decide)), if_neg (show ¬ mch c = (60 : Int32) from ne 60 (by decide) (by decide)), if_neg (show ¬ mch c = (61 : Int32) from ne 61 (by decide) (by decide)), if_neg (show ¬ mch c = (62 : Int32) from ne 62 (by decide) (by decide)), if_neg (show ¬ mch c = (63 : Int32) from ne 63 (by decide) (by decide)), if_neg (show ¬ mch c = (64 : Int32) from ne 64 (by decide) (by decide)), if_neg (show ¬ mch c = (65 : Int32) from ne 65 (by decide) (by decide)), if_neg (show ¬ mch c = (66 : Int32) from ne 66 (by decide) (by decide)), if_neg (show ¬ mch c = (67 : Int32) from ne 67 (by decide) (by decide)), if_neg (show ¬ mch c = (68 : Int32) from ne 68 (by decide) (by decide)), if_neg (show ¬ mch c = (69 : Int32) from ne 69 (by decide) (by decide)), if_neg (show ¬ mch c = (70 : Int32) from ne 70 (by decide) (by decide)), if_neg (show ¬ mch c = (71 : Int32) from ne 71 (by decide) (by decide)), if_neg (show ¬ mch c = (72 : Int32) from ne 72 (by decide) (by decide)), if_neg (show ¬ mch c = (73 : Int32) from ne 73 (by decide) (by decide)), if_neg (show ¬ mch c = (74 : Int32) from ne 74 (by decide) (by decide)), if_neg (show ¬ mch c = (75 : Int32) from ne 75 (by decide) (by decide)), if_neg (show ¬ mch c = (76 : Int32) from ne 76 (by decide) (by decide)), if_neg (show ¬ mch c = (77 : Int32) from ne 77 (by decide) (by decide)), if_neg (show ¬ mch c = (78 : Int32) from ne 78 (by decide) (by decide)), if_neg (show ¬ mch c = (79 : Int32) from ne 79 (by decide) (by decide)), if_neg (show ¬ mch c = (80 : Int32) from ne 80 (by decide) (by decide)), if_neg (show ¬ mch c = (81 : Int32) from ne 81 (by decide) (by decide)), if_neg (show ¬ mch c = (82 : Int32) from ne 82 (by decide) (by decide)), if_neg (show ¬ mch c = (83 : Int32) from ne 83 (by decide) (by decide)), if_neg (show ¬ mch c = (84 : Int32) from ne 84 (by decide) (by decide)), if_neg (show ¬ mch c = (85 : Int32) from ne 85 (by decide) (by decide)), if_neg (show ¬ mch c = (86 : Int32) from ne 86 (by decide) (by decide)), if_neg (show ¬ mch c = (87 : Int32) from ne 87 (by decide) (by decide)), if_neg (show ¬ mch c = (88 : Int32) from ne 88 (by decide) (by decide)), if_neg (show ¬ mch c = (89 : Int32) from ne 89 (by decide) (by decide)), if_neg (show ¬ mch c = (90 : Int32) from ne 90 (by decide) (by decide)), if_neg (show ¬ mch c = (91 : Int32) from ne 91 (by decide) (by decide)), if_neg (show ¬ mch c = (92 : Int32) from ne 92 (by decide) (by decide)), if_neg (show ¬ mch c = (93 : Int32) from ne 93 (by decide) (by decide)), if_neg (show ¬ mch c = (94 : Int32) from ne 94 (by decide) (by decide)), if_neg (show ¬ mch c = (95 : Int32) from ne 95 (by decide) (by decide)), if_neg (show ¬ mch c = (96 : Int32) from ne 96 (by decide) (by decide)), if_neg (show ¬ mch c = (97 : Int32) from ne 97 (by decide) (by decide)), if_neg (show ¬ mch c = (98 : Int32) from ne 98 (by decide) (by decide)), if_neg (show ¬ mch c = (99 : Int32) from ne 99 (by decide) (by decide)), if_neg (show ¬ mch c = (100 : Int32) from ne 100 (by decide) (by decide)), if_neg (show ¬ mch c = (101 : Int32) from ne 101 (by decide) (by decide)), if_neg (show ¬ mch c = (102 : Int32) from ne 102 (by decide) (by decide)), if_neg (show ¬ mch c = (103 : Int32) from ne 103 (by decide) (by decide)), if_neg (show ¬ mch c = (104 : Int32) from ne 104 (by decide) (by decide)), if_neg (show ¬ mch c = (105 : Int32) from ne 105 (by decide) (by decide)), if_neg (show ¬ mch c = (106 : Int32) from ne 106 (by decide) (by decide)), if_neg (show ¬ mch c = (107 : Int32) from ne 107 (by decide) (by decide)), if_neg (show ¬ mch c = (108 : Int32) from ne 108 (by decide) (by decide)), if_neg (show ¬ mch c = (109 : Int32) from ne 109 (by decide) (by decide)), if_neg (show ¬ mch c = (110 : Int32) from ne 110 (by decide) (by decide)), if_neg (show ¬ mch c = (111 : Int32) from ne 111 (by decide) (by decide)), if_neg (show ¬ mch c = (112 : Int32) from ne 112 (by decide) (by decide)), if_neg (show ¬ mch c = (113 : Int32) from ne 113 (by decide) (by decide)), if_neg (show ¬ mch c = (114 : Int32) from ne 114 (by decide) (by decide)), if_neg (show ¬ mch c = (115 : Int32) from ne 115 (by decide) (by decide)), if_neg (show ¬ mch c = (116 : Int32) from ne 116 (by decide) (by decide)), if_neg (show ¬ mch c = (117 : Int32) from ne 117 (by decide) (by decide)), if_neg (show ¬ mch c = (118 : Int32) from ne 118 (by decide) (by decide)), if_neg (show ¬ mch c = (119 : Int32) from ne 119 (by decide) (by decide)), if_neg (show ¬ mch c = (120 : Int32) from ne 120 (by decide) (by decide)), if_neg (show ¬ mch c = (121 : Int32) from ne 121 (by decide) (by decide)), if_neg (show ¬ mch c = (122 : Int32) from ne 122 (by decide) (by decide)), if_neg (show ¬ mch c = (123 : Int32) from ne 123 (by decide) (by decide)), if_neg (show ¬ mch c = (124 : Int32) from ne 124 (by decide) (by decide)), if_neg (show ¬ mch c = (125 : Int32) from ne 125 (by decide) (by decide)), if_neg (show ¬ mch c = (126 : Int32) from ne 126 (by decide) (by decide))]
    rfl
/-- the tokens are these from T on, and T + their number in all -/
def Tks (s : ms) (T : Nat) (l : List (Nat × Nat × Nat)) : Prop := s.1 7 0 = nI (T + l.length) ∧ ∀ (i : Nat) (e : Nat × Nat × Nat), l[i]? = some e → s.1 4 (T + i) = nI e.1 ∧ s.1 5 (T + i) = nI e.2.1 ∧ s.1 6 (T + i) = nI e.2.2
theorem token_M {N T k b e : Nat} {s : ms} (h : s.1 7 0 = nI T) (hT : T < 65540) : fn_M_token N (nI k) (nI b) (nI e) s = some ((), upI (upI (upI (upI s 4 (upd (s.1 4) T (nI k))) 5 (upd (s.1 5) T (nI b))) 6 (upd (s.1 6) T (nI e))) 7 (fun _ => nI (T + 1))) := by
  unfold fn_M_token
  rw [h, if_neg (nI_in hT (by decide)), if_neg (nI_in hT (by decide)), if_neg (nI_in hT (by decide)), nI_clamp (by omega), nI_1]
/-- the token at a place that is neither blank nor comment: its kind, its end -/
def tkind (ch : Nat → Nat) (n k : Nat) : Nat × Nat :=
  if clet (ch k) then (wk ch k (ff (pni ch) n k) kwt 0, ff (pni ch) n k)
  else if cdig (ch k) then (nkind ch k (ff (pnd ch) n k) (nend ch n k), nend ch n k)
  else if 0 < cpair (ch k) (ch (k + 1)) then (cpair (ch k) (ch (k + 1)), k + 2)
  else (if csign (ch k) then ch k else 404, k + 1)
/-- all tokens from k on -/
def tks (ch : Nat → Nat) (n : Nat) : Nat → Nat → List (Nat × Nat × Nat)
  | 0, _ => []
  | f + 1, k => if (sk ch n (n + 1) k).2 = false then [(404, (sk ch n (n + 1) k).1, n)] else if n ≤ (sk ch n (n + 1) k).1 then [(403, n, n)]
    else if (tkind ch n (sk ch n (n + 1) k).1).1 = 404 then [(404, (sk ch n (n + 1) k).1, (tkind ch n (sk ch n (n + 1) k).1).2)]
    else ((tkind ch n (sk ch n (n + 1) k).1).1, (sk ch n (n + 1) k).1, (tkind ch n (sk ch n (n + 1) k).1).2) :: tks ch n f (tkind ch n (sk ch n (n + 1) k).1).2
theorem Tks.one {s : ms} {T : Nat} {e : Nat × Nat × Nat} (h : s.1 7 0 = nI (T + 1)) (h4 : s.1 4 T = nI e.1) (h5 : s.1 5 T = nI e.2.1) (h6 : s.1 6 T = nI e.2.2) : Tks s T [e] := by
  refine ⟨h, fun i x hx => ?_⟩
  cases i with
  | zero => cases hx; exact ⟨h4, h5, h6⟩
  | succ i => simp at hx
theorem Tks.cons {s : ms} {T : Nat} {e : Nat × Nat × Nat} {l : List (Nat × Nat × Nat)} (h : Tks s (T + 1) l) (h4 : s.1 4 T = nI e.1) (h5 : s.1 5 T = nI e.2.1) (h6 : s.1 6 T = nI e.2.2) : Tks s T (e :: l) := by
  refine ⟨by rw [h.1, List.length_cons]; congr 1; omega, fun i x hx => ?_⟩
  cases i with
  | zero => cases hx; exact ⟨h4, h5, h6⟩
  | succ i =>
    have := h.2 i x (by simpa using hx)
    rw [show T + (i + 1) = T + 1 + i by omega]; exact this
/-- rows of tokens before T are as they were -/
def Tkb (n T : Nat) (s t : ms) : Prop := ∀ i, i < T ∨ n < i → t.1 4 i = s.1 4 i ∧ t.1 5 i = s.1 5 i ∧ t.1 6 i = s.1 6 i
theorem Tkb.trans {n T : Nat} {s t u : ms} (h1 : Tkb n T s t) (h2 : Tkb n T t u) : Tkb n T s u := fun i hi => ⟨(h2 i hi).1.trans (h1 i hi).1, (h2 i hi).2.1.trans (h1 i hi).2.1, (h2 i hi).2.2.trans (h1 i hi).2.2⟩
theorem Tkb.less {n T U : Nat} {s t : ms} (h : Tkb n U s t) (hT : T ≤ U) : Tkb n T s t := fun i hi => h i (by omega)
/-- a token is laid, and the loop goes on or ends -/
theorem tok_M {n N T k b e j : Nat} {s : ms} {k7 : Int32 → ms → Option (Unit × ms)} (h : s.1 7 0 = nI T) (hTn : T ≤ n) (hT : T < 65540) (hk : k < 1000) : ∃ t : ms, ((fn_M_token N (nI k) (nI b) (nI e) s).bind (fun q_1 => bk_M_cutTokens_193 N k7 (nI j) q_1.2)) = (if k = 404 then some ((), t) else k7 (nI j) t) ∧ t.1 7 0 = nI (T + 1) ∧ t.1 4 T = nI k ∧ t.1 5 T = nI b ∧ t.1 6 T = nI e ∧ Tkb n T s t ∧ Eb [4, 5, 6, 7] [] s t := by
  rw [ex_bind (token_M h hT)]
  obtain ⟨t, ht⟩ : ∃ t, t = upI (upI (upI (upI s 4 (upd (s.1 4) T (nI k))) 5 (upd (s.1 5) T (nI b))) 6 (upd (s.1 6) T (nI e))) 7 (fun _ => nI (T + 1)) := ⟨_, rfl⟩
  have a7 : t.1 7 0 = nI (T + 1) := by rw [ht]; rfl
  have a4 : t.1 4 = upd (s.1 4) T (nI k) := by rw [ht]; rfl
  have a5 : t.1 5 = upd (s.1 5) T (nI b) := by rw [ht]; rfl
  have a6 : t.1 6 = upd (s.1 6) T (nI e) := by rw [ht]; rfl
  refine ⟨t, ?_, a7, by rw [a4]; exact if_pos rfl, by rw [a5]; exact if_pos rfl, by rw [a6]; exact if_pos rfl, fun i hi => ⟨?_, ?_, ?_⟩, by rw [ht]; exact (((Eb.rfl.upI (by decide)).upI (by decide)).upI (by decide)).upI (by decide)⟩
  · rw [← ht]
    unfold bk_M_cutTokens_193
    show (if t.1 7 0 - 1 < 0 ∨ _ then _ else _) = _
    rw [a7, nI_pred, if_neg (nI_in hT (by decide)), nI_clamp (by omega), a4]
    show (if upd (s.1 4) T (nI k) T = 404 then _ else _) = _
    rw [show upd (s.1 4) T (nI k) T = nI k from if_pos rfl]
    by_cases c : k = 404
    · rw [if_pos c, c, if_pos (by decide)]
    · have c9 : ¬ nI k = (404 : Int32) := fun q => c ((nI_eq (by omega) (by decide)).mp (show nI k = nI 404 from q))
      rw [if_neg c, if_neg c9]
  · rw [a4]; exact if_neg (by omega)
  · rw [a5]; exact if_neg (by omega)
  · rw [a6]; exact if_neg (by omega)
theorem cut71_M {N n p : Nat} {ch : Nat → Nat} {s : ms} {k7 : Int32 → ms → Option (Unit × ms)} (h : Src s n ch) (hN : n + 113 < N) (hp : p ≤ n) : ∀ (m k f : Nat), p ≤ k → k ≤ n → n ≤ k + f → f < m → hd_M_cutTokens_71 N k7 m (nI k) (nI p) s = ((fn_M_token N (nI (wk ch p (ff (pni ch) f k) kwt 0)) (nI p) (nI (ff (pni ch) f k)) s).bind (fun q_1 => bk_M_cutTokens_193 N k7 (nI (ff (pni ch) f k)) q_1.2)) := by
  intro m
  induction m with
  | zero => intro k f h0 h1 h2 h3; omega
  | succ m ih =>
    intro k f h0 h1 h2 h3
    have hn := h.2.1
    have lt := h.lt k
    show bd_M_cutTokens_71 N k7 (hd_M_cutTokens_71 N k7 m) (nI k) (nI p) s = _
    unfold bd_M_cutTokens_71
    rw [at_M h (by omega), ex_bind rfl]
    show ((fn_M_isIn N (mch (ch k)) s).bind _) = _
    rw [isIn_M lt, ex_bind rfl]
    show (if b01 (cinn (ch k)) = 0 then _ else _) = _
    cases c : cinn (ch k)
    · have : ff (pni ch) f k = k := ff_only _ (Nat.le_refl k) (by omega) (fun j h1 h2 => by omega) (by simp [pni, c])
      rw [this, if_pos (show b01 false = 0 from rfl)]
      show ((fn_M_wordKind N (nI p) (nI k) s).bind _) = _
      rw [wordKind_M h h0 h1 (by omega), ex_bind rfl]
    · rw [if_neg (show ¬ b01 true = 0 by decide), nI_1]
      have kn : k < n := by
        by_cases z : k < n
        · exact z
        · have := h.2.2.2 k (by omega)
          exact absurd c (by rw [this]; decide)
      obtain ⟨f, rfl⟩ : ∃ f', f = f' + 1 := ⟨f - 1, by omega⟩
      have e : ff (pni ch) (f + 1) k = ff (pni ch) f (k + 1) := by
        show (if pni ch k then k else _) = _
        rw [if_neg (by simp [pni, c])]
      rw [e]
      exact ih (k + 1) f (by omega) (by omega) (by omega) (by omega)
theorem neg_sk (p : Nat) (h : p < 2 ^ 31) : (-1 : Int32) - ((-1) - nI p) = nI p ∧ ¬ (0 : Int32) ≤ (-1) - nI p := by
  have e : ((-1 : Int32) - nI p).toInt = -1 - (p : Int) := by
    rw [Int32.toInt_sub, nI_toInt h, show (-1 : Int32).toInt = -1 from by decide]
    rw [Int.bmod_eq_of_le] <;> omega
  constructor
  · apply Int32.toInt_inj.mp
    rw [Int32.toInt_sub, e, nI_toInt h, show (-1 : Int32).toInt = -1 from by decide]
    rw [Int.bmod_eq_of_le] <;> omega
  · intro q
    have := Int32.le_iff_toInt_le.mp q
    rw [e, show (0 : Int32).toInt = 0 from by decide] at this
    omega
theorem sk_in {s : ms} {n : Nat} {ch : Nat → Nat} (h : Src s n ch) : ∀ (f k : Nat), k ≤ n → k ≤ (sk ch n f k).1 ∧ (sk ch n f k).1 ≤ n ∧ ((sk ch n f k).2 = false → (sk ch n f k).1 < n) := by
  intro f
  induction f with
  | zero => intro k hk; exact ⟨Nat.le_refl k, hk, fun q => by cases q⟩
  | succ f ih =>
    intro k hk
    have e256 : n ≤ k → ch k = 256 := fun q => h.2.2.2 k q
    unfold sk
    by_cases c1 : cblank (ch k) = true
    · rw [if_pos c1]
      have kn : k < n := by
        by_cases z : k < n
        · exact z
        · exact absurd c1 (by rw [e256 (by omega)]; decide)
      have := ih (k + 1) (by omega)
      exact ⟨by omega, this.2⟩
    rw [if_neg c1]
    by_cases c2 : ch k = 47 ∧ ch (k + 1) = 47
    · rw [if_pos c2]
      obtain ⟨a1, a2, -⟩ := ff_in h (peol ch) (fun j q => by simp [peol, q]) hk
      have := ih _ a2
      exact ⟨by omega, this.2⟩
    rw [if_neg c2]
    by_cases c3 : ch k = 47 ∧ ch (k + 1) = 42
    · rw [if_pos c3]
      have kn : k + 1 < n := by
        by_cases z : k + 1 < n
        · exact z
        · have := h.2.2.2 (k + 1) (by omega); omega
      obtain ⟨a1, a2, a3⟩ := ff_in h (pcom ch) (fun j q => by simp [pcom, q]) (show k + 2 ≤ n by omega)
      by_cases c4 : ff (pcom ch) n (k + 2) < n
      · rw [if_pos c4]
        have e2 : ch (ff (pcom ch) n (k + 2) + 1) = 47 := by
          simp only [pcom, decide_eq_true_eq] at a3
          rcases a3 with a3 | a3
          · have := (h.2.2.1 _ c4).1; omega
          · exact a3.2
        have : ff (pcom ch) n (k + 2) + 1 < n := by
          by_cases c9 : ff (pcom ch) n (k + 2) + 1 < n
          · exact c9
          · have := h.2.2.2 _ (Nat.le_of_not_lt c9); omega
        have := ih (ff (pcom ch) n (k + 2) + 2) (by omega)
        exact ⟨by omega, this.2⟩
      · rw [if_neg c4]; exact ⟨Nat.le_refl k, hk, fun _ => by show k < n; omega⟩
    rw [if_neg c3]
    exact ⟨Nat.le_refl k, hk, fun q => by cases q⟩
theorem wk_lt (ch : Nat → Nat) (fr to : Nat) : ∀ (l : List (Nat × Nat)) (i : Nat), i + l.length < 100 → wk ch fr to l i < 404
  | [], _, _ => by show 400 < 404; decide
  | e :: l, i, h => by
    unfold wk
    simp only [List.length_cons] at h
    split
    · omega
    · exact wk_lt ch fr to l (i + 1) (by omega)
theorem nkind_lt (ch : Nat → Nat) (fr k to : Nat) : nkind ch fr k to < 1000 := by
  unfold nkind
  split
  · split <;> decide
  · split <;> decide
theorem cpair_lt (c d : Nat) : cpair c d < 264 := by
  unfold cpair
  repeat' split
  all_goals decide
theorem nend_in {s : ms} {n k : Nat} {ch : Nat → Nat} (h : Src s n ch) (hk : k ≤ n) : k ≤ ff (pnd ch) n k ∧ ff (pnd ch) n k ≤ nend ch n k ∧ nend ch n k ≤ n := by
  obtain ⟨a1, a2, -⟩ := ff_in h (pnd ch) (fun j q => by rw [pnd, q]; rfl) hk
  unfold nend
  by_cases c : ch (ff (pnd ch) n k) = 39
  · rw [if_pos c]
    have kn : ff (pnd ch) n k < n := by
      by_cases z : ff (pnd ch) n k < n
      · exact z
      · have := h.2.2.2 _ (Nat.le_of_not_lt z); omega
    obtain ⟨b1, b2, -⟩ := ff_in h (pni ch) (fun j q => by rw [pni, q]; rfl) (show ff (pnd ch) n k + 1 ≤ n by omega)
    exact ⟨a1, by omega, b2⟩
  · rw [if_neg c]
    obtain ⟨b1, b2, -⟩ := ff_in h (pni ch) (fun j q => by rw [pni, q]; rfl) a2
    exact ⟨a1, b1, b2⟩
/-- a token is not empty -/
theorem tkind_in {s : ms} {n k : Nat} {ch : Nat → Nat} (h : Src s n ch) (hk : k < n) : k < (tkind ch n k).2 ∧ (tkind ch n k).2 ≤ n ∧ (tkind ch n k).1 < 1000 := by
  have lt := (h.2.2.1 k hk).1
  unfold tkind
  by_cases c1 : clet (ch k) = true
  · rw [if_pos c1]
    obtain ⟨b1, b2, b3⟩ := ff_in h (pni ch) (fun j q => by rw [pni, q]; rfl) (show k ≤ n by omega)
    refine ⟨?_, b2, Nat.lt_trans (wk_lt ch k _ kwt 0 (by decide)) (by decide)⟩
    show k < ff (pni ch) n k
    by_cases z : k < ff (pni ch) n k
    · exact z
    · have e : ff (pni ch) n k = k := by omega
      rw [e] at b3
      simp [pni, cinn, c1] at b3
  rw [if_neg c1]
  by_cases c2 : cdig (ch k) = true
  · rw [if_pos c2]
    obtain ⟨a1, a2, a3⟩ := nend_in h (show k ≤ n by omega)
    refine ⟨?_, a3, nkind_lt _ _ _ _⟩
    show k < nend ch n k
    have b3 := (ff_in h (pnd ch) (fun j q => by rw [pnd, q]; rfl) (show k ≤ n by omega)).2.2
    by_cases z : k < ff (pnd ch) n k
    · omega
    · have e : ff (pnd ch) n k = k := by omega
      rw [e] at b3
      simp [pnd, c2] at b3
  rw [if_neg c2]
  by_cases c3 : 0 < cpair (ch k) (ch (k + 1))
  · rw [if_pos c3]
    refine ⟨by show k < k + 2; omega, ?_, Nat.lt_trans (cpair_lt _ _) (by decide)⟩
    show k + 2 ≤ n
    by_cases z : k + 1 < n
    · omega
    · have e := h.2.2.2 (k + 1) (by omega)
      rw [e] at c3
      have : ∀ c : Nat, cpair c 256 = 0 := fun c => by
        unfold cpair
        simp
      rw [this] at c3; omega
  · rw [if_neg c3]
    refine ⟨by show k < k + 1; omega, by show k + 1 ≤ n; omega, ?_⟩
    show (if csign (ch k) = true then ch k else 404) < 1000
    split <;> omega
theorem cut_M {N n : Nat} {ch : Nat → Nat} (hN : n + 200 < N) : ∀ (m f k T : Nat) (s : ms), Src s n ch → k ≤ n → n < k + m → n < k + f → T ≤ k → s.1 7 0 = nI T → ∃ t : ms, hd_M_cutTokens_7 N m (nI k) s = some ((), t) ∧ Tks t T (tks ch n f k) ∧ Tkb n T s t ∧ Eb [4, 5, 6, 7, 87] [] s t := by
  intro m
  induction m with
  | zero => intro f k T s h h1 h2 h3 h4 h5; omega
  | succ m ih =>
    intro f k T s h h1 h2 h3 h4 h5
    have hn := h.2.1
    obtain ⟨f, rfl⟩ : ∃ f', f = f' + 1 := ⟨f - 1, by omega⟩
    show ∃ t : ms, bd_M_cutTokens_7 N (hd_M_cutTokens_7 N m) (nI k) s = _ ∧ _
    unfold bd_M_cutTokens_7 tks
    have hsk : fn_M_skip N (nI k) s = some (skr (sk ch n (n + 1) k), s) := skip_M h (by omega) N k (n + 1) h1 (by omega) (by omega)
    rw [ex_bind hsk]
    obtain ⟨b1, b2, b3⟩ := sk_in h (n + 1) k h1
    obtain ⟨r, hr⟩ : ∃ r, r = sk ch n (n + 1) k := ⟨_, rfl⟩
    rw [← hr] at b1 b2 b3 ⊢
    obtain ⟨p, ok⟩ := r
    dsimp only at b1 b2 b3 ⊢
    cases ok
    · have ns := neg_sk p (by omega)
      have lt := b3 rfl
      show ∃ t : ms, (if 0 ≤ (-1 : Int32) - nI p then _ else _) = _ ∧ _
      rw [if_neg ns.2, if_pos rfl]
      show ∃ t : ms, ((fn_M_token N 404 ((-1) - ((-1 : Int32) - nI p)) (s.1 2 0) s).bind _) = _ ∧ _
      rw [ns.1, h.1, show (404 : Int32) = nI 404 from rfl, ex_bind (token_M h5 (by omega))]
      obtain ⟨t, e1, e2, e3, e4, e5, e6, e7⟩ := tok_M (N := N) (k := 404) (b := p) (e := n) (j := 0) (k7 := fun _ _ => none) h5 (show T ≤ n by omega) (by omega) (by decide)
      rw [ex_bind (token_M h5 (by omega))] at e1
      refine ⟨_, rfl, ?_, ?_, ?_⟩
      · exact Tks.one rfl (if_pos rfl) (if_pos rfl) (if_pos rfl)
      · exact fun i hi => ⟨if_neg (by omega), if_neg (by omega), if_neg (by omega)⟩
      · exact (((Eb.rfl.upI (by decide)).upI (by decide)).upI (by decide)).upI (by decide)
    · rw [show skr (p, true) = nI p from rfl]
      rw [if_pos (nI_pos' (by omega)), if_neg (show ¬ true = false by decide), h.1]
      by_cases c0 : p < n
      · have lt := h.lt p
        have lt1 := h.lt (p + 1)
        obtain ⟨t1, t2, t3⟩ := tkind_in h c0
        rw [if_pos (nI_lt c0 (by omega)), if_neg (by omega), at_M h (by omega), ex_bind rfl]
        show ∃ t : ms, ((fn_M_isLetter N (mch (ch p)) s).bind _) = _ ∧ _
        rw [isLetter_M lt, ex_bind rfl]
        have fin : ∀ (kd en : Nat) (s2 : ms), tkind ch n p = (kd, en) → Src s2 n ch → s2.1 7 0 = nI T → Tkb n T s s2 → Eb [4, 5, 6, 7, 87] [] s s2 → ∃ t : ms, ((fn_M_token N (nI kd) (nI p) (nI en) s2).bind (fun q_1 => bk_M_cutTokens_193 N (hd_M_cutTokens_7 N m) (nI en) q_1.2)) = some ((), t) ∧ Tks t T (if (tkind ch n p).1 = 404 then [(404, p, (tkind ch n p).2)] else ((tkind ch n p).1, p, (tkind ch n p).2) :: tks ch n f (tkind ch n p).2) ∧ Tkb n T s t ∧ Eb [4, 5, 6, 7, 87] [] s t := by
          intro kd en s2 hk hs2 h72 hb2 he2
          rw [hk] at t1 t2 t3 ⊢
          dsimp only at t1 t2 t3 ⊢
          obtain ⟨t, e1, e2, e3, e4, e5, e6, e7⟩ := tok_M (N := N) (k := kd) (b := p) (e := en) (j := en) (k7 := hd_M_cutTokens_7 N m) h72 (show T ≤ n by omega) (by omega) t3
          rw [e1]
          by_cases z : kd = 404
          · rw [if_pos z, if_pos z]
            refine ⟨t, rfl, ?_, hb2.trans e6, he2.trans (e7.mono (by decide) (by decide))⟩
            exact Tks.one e2 (by rw [e3, z]) e4 e5
          · rw [if_neg z, if_neg z]
            have hs3 : Src t n ch := hs2.mono (e7.1 2 (by decide)) (e7.1 90 (by decide))
            obtain ⟨u, u1, u2, u3, u4⟩ := ih f en (T + 1) t hs3 t2 (by omega) (by omega) (by omega) e2
            refine ⟨u, u1, ?_, (hb2.trans e6).trans (u3.less (by omega)), (he2.trans (e7.mono (by decide) (by decide))).trans u4⟩
            obtain ⟨v4, v5, v6⟩ := u3 T (Or.inl (by omega))
            exact Tks.cons u2 (by rw [v4, e3]) (by rw [v5, e4]) (by rw [v6, e5])
        show ∃ t : ms, (if b01 (clet (ch p)) = 0 then _ else _) = _ ∧ _
        cases c1 : clet (ch p)
        · rw [if_pos (show b01 false = 0 from rfl)]
          show ∃ t : ms, ((fn_M_isDigit N (mch (ch p)) s).bind _) = _ ∧ _
          rw [isDigit_M lt, ex_bind rfl]
          show ∃ t : ms, (if b01 (cdig (ch p)) = 0 then _ else _) = _ ∧ _
          cases c2 : cdig (ch p)
          · rw [if_pos (show b01 false = 0 from rfl), nI_1]
            show ∃ t : ms, ((fn_M_at N (nI (p + 1)) s).bind _) = _ ∧ _
            rw [at_M h (by omega), ex_bind rfl]
            show ∃ t : ms, ((fn_M_pair N (mch (ch p)) (mch (ch (p + 1))) s).bind _) = _ ∧ _
            rw [pair_M lt lt1, ex_bind rfl]
            have cl := cpair_lt (ch p) (ch (p + 1))
            show ∃ t : ms, (if nI (cpair (ch p) (ch (p + 1))) ≤ 0 then _ else _) = _ ∧ _
            by_cases c3 : 0 < cpair (ch p) (ch (p + 1))
            · rw [if_neg (nI_nle c3 (by omega))]
              show ∃ t : ms, ((fn_M_at N (nI (p + 1)) s).bind _) = _ ∧ _
              rw [at_M h (by omega), ex_bind rfl]
              show ∃ t : ms, ((fn_M_pair N (mch (ch p)) (mch (ch (p + 1))) s).bind _) = _ ∧ _
              rw [pair_M lt lt1, ex_bind rfl, show (2 : Int32) = nI 2 from rfl, nI_add]
              exact fin _ _ s (by unfold tkind; rw [c1, if_neg (by decide), c2, if_neg (by decide), if_pos c3]) h h5 (fun i _ => ⟨rfl, rfl, rfl⟩) Eb.rfl
            · have e0 : cpair (ch p) (ch (p + 1)) = 0 := by omega
              rw [e0, if_pos (by decide)]
              show ∃ t : ms, ((fn_M_isSign N (mch (ch p)) s).bind _) = _ ∧ _
              rw [isSign_M lt, ex_bind rfl]
              show ∃ t : ms, (if b01 (csign (ch p)) = 0 then _ else _) = _ ∧ _
              have hk : tkind ch n p = (if csign (ch p) then ch p else 404, p + 1) := by unfold tkind; rw [c1, if_neg (by decide), c2, if_neg (by decide), if_neg c3]
              unfold bk_M_cutTokens_188
              cases c4 : csign (ch p)
              · rw [if_pos (show b01 false = 0 from rfl), show (404 : Int32) = nI 404 from rfl]
                exact fin _ _ s (by rw [hk, c4]; rfl) h h5 (fun i _ => ⟨rfl, rfl, rfl⟩) Eb.rfl
              · rw [if_neg (show ¬ b01 true = 0 by decide)]
                have em : mch (ch p) = nI (ch p) := if_neg (by have := (h.2.2.1 p c0).1; omega)
                show ∃ t : ms, ((fn_M_token N (mch (ch p)) (nI p) (nI (p + 1)) s).bind _) = _ ∧ _
                rw [em]
                exact fin _ _ s (by rw [hk, c4]; rfl) h h5 (fun i _ => ⟨rfl, rfl, rfl⟩) Eb.rfl
          · rw [if_neg (show ¬ b01 true = 0 by decide)]
            show ∃ t : ms, ((fn_M_numberEnd N (nI p) s).bind _) = _ ∧ _
            rw [numberEnd_M h (by omega) b2, ex_bind rfl]
            obtain ⟨a1, a2, a3⟩ := nend_in h b2
            obtain ⟨s2, hs2, eb2⟩ := numberKind_M (N := N) h (by omega) b2 a3 a2
            show ∃ t : ms, ((fn_M_numberKind N (nI p) (nI (nend ch n p)) s).bind _) = _ ∧ _
            rw [ex_bind hs2]
            have q2 : Src s2 n ch := h.mono (eb2.1 2 (by decide)) (eb2.1 90 (by decide))
            exact fin _ _ s2 (by unfold tkind; rw [c1, if_neg (by decide), c2, if_pos rfl]) q2 (by rw [eb2.1 7 (by decide)]; exact h5) (fun i _ => ⟨by rw [eb2.1 4 (by decide)], by rw [eb2.1 5 (by decide)], by rw [eb2.1 6 (by decide)]⟩) (eb2.mono (by decide) (by decide))
        · rw [if_neg (show ¬ b01 true = 0 by decide)]
          show ∃ t : ms, hd_M_cutTokens_71 N (hd_M_cutTokens_7 N m) N (nI p) (nI p) s = _ ∧ _
          rw [cut71_M h (by omega) b2 N p n (Nat.le_refl p) b2 (by omega) (by omega)]
          exact fin _ _ s (by unfold tkind; rw [c1, if_pos rfl]) h h5 (fun i _ => ⟨rfl, rfl, rfl⟩) Eb.rfl
      · obtain rfl : p = n := by omega
        rw [if_neg (nI_nlt (Nat.le_refl _) (by omega)), if_pos (Nat.le_refl _)]
        rw [show (403 : Int32) = nI 403 from rfl, ex_bind (token_M h5 (by omega))]
        refine ⟨_, rfl, ?_, ?_, ?_⟩
        · exact Tks.one rfl (if_pos rfl) (if_pos rfl) (if_pos rfl)
        · exact fun i hi => ⟨if_neg (by omega), if_neg (by omega), if_neg (by omega)⟩
        · exact (((Eb.rfl.upI (by decide)).upI (by decide)).upI (by decide)).upI (by decide)
theorem cutTokens_M {N n : Nat} {ch : Nat → Nat} {s : ms} (h : Src s n ch) (hN : n + 200 < N) : ∃ t : ms, fn_M_cutTokens N s = some ((), t) ∧ Tks t 0 (tks ch n (n + 1) 0) ∧ Eb [4, 5, 6, 7, 87] [] s t ∧ ∀ i, n < i → t.1 4 i = s.1 4 i := by
  obtain ⟨t, a, b, c, d⟩ := cut_M hN N (n + 1) 0 0 (upI s 7 (fun _ => 0)) (h.mono rfl rfl) (Nat.zero_le _) (by omega) (by omega) (Nat.zero_le _) rfl
  exact ⟨t, a, b, (Eb.rfl.upI (by decide)).trans d, fun i hi => (c i (Or.inr hi)).1⟩
