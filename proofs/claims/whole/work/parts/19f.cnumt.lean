/-! The number that begins at a place, as the class makes a token of it. -/
theorem inn39 {c : Nat} (h : cinn c = true) : c ≠ 39 := fun z => by rw [z] at h; revert h; decide
theorem ffs (p : Nat → Bool) {f k : Nat} (h : p k = false) : ff p (f + 1) k = ff p f (k + 1) := by
  show (if p k then k else _) = _
  rw [if_neg (by simp [h])]
theorem ffz (p : Nat → Bool) {f k : Nat} (h : p k = true) : ff p f k = k := by
  cases f with
  | zero => rfl
  | succ f => show (if p k then k else _) = k; rw [if_pos h]
theorem nb2_C {N n q : Nat} {x1 : Int32} {ch : Nat → Nat} {s : ms} (h : Txt s n ch) (hq : q < 2 ^ 31) : ∀ (m i f : Nat), i ≤ n → n ≤ i + f → f < m → hd_Scanner_number_Sc_4 N m x1 (nI q) (nI i) s = bk_Scanner_number_Sc_59 N x1 (nI q) (nI (ff (pni ch) f i)) s := by
  have hn := h.2.1
  have q1 : ¬ nI q = (-1 : Int32) := fun z => by
    have := congrArg Int32.toInt z
    rw [nI_toInt hq, show (-1 : Int32).toInt = -1 from by decide] at this; omega
  intro m
  induction m with
  | zero => intro i f h1 h2 h3; omega
  | succ m ih =>
    intro i f h1 h2 h3
    have lt := h.lt i
    show bd_Scanner_number_Sc_4 N (hd_Scanner_number_Sc_4 N m) x1 (nI q) (nI i) s = _
    unfold bd_Scanner_number_Sc_4 bk_Scanner_number_Sc_40
    rw [h.1]
    by_cases c : i < n
    · rw [if_neg (nI_ge c (by omega)), if_neg (nI_in (show i < 65536 by omega) (by decide)), nI_clamp (by omega), txt_at h c, continuesWord_C lt, ex_bind rfl]
      dsimp only
      rw [if_neg (nI_inN (show i < 65536 by omega) (by omega)), txt_at h c, nI_1]
      have q39 : (kch (ch i) = (39 : Int32)) = (ch i = 39) := kq lt 39 (by decide)
      cases g : cinn (ch i)
      · rw [if_pos (show b01 false = 0 from rfl), ffz (pni ch) (by simp [pni, g])]
        by_cases c2 : ch i = 39
        · rw [if_pos (q39.mpr c2), if_neg q1]
        · rw [if_neg (fun z => c2 (q39.mp z))]
      · obtain ⟨f, rfl⟩ : ∃ f', f = f' + 1 := ⟨f - 1, by omega⟩
        rw [if_neg (show ¬ b01 true = 0 by decide), if_neg (nI_inN (show i < 65536 by omega) (by omega)), if_neg (fun z => inn39 g (q39.mp z)), ffs (pni ch) (by simp [pni, g])]
        exact ih (i + 1) f (by omega) (by omega) (by omega)
    · rw [if_pos (nI_le (by omega) (by omega)), ffz (pni ch) (by rw [pni, h.2.2.2 i (by omega)]; rfl)]
theorem nb1_C {N n : Nat} {x1 : Int32} {ch : Nat → Nat} {s : ms} (h : Txt s n ch) (hN : n < N) : ∀ (m i f : Nat), i ≤ n → n ≤ i + f → n < i + m → f < m → hd_Scanner_number_Sc_4 N m x1 (-1) (nI i) s = if ch (ff (pni ch) f i) = 39 then bk_Scanner_number_Sc_59 N x1 (nI (ff (pni ch) f i)) (nI (ff (pni ch) n (ff (pni ch) f i + 1))) s else bk_Scanner_number_Sc_59 N x1 (-1) (nI (ff (pni ch) f i)) s := by
  have hn := h.2.1
  intro m
  induction m with
  | zero => intro i f h1 h2 h3 h4; omega
  | succ m ih =>
    intro i f h1 h2 h3 h4
    have lt := h.lt i
    show bd_Scanner_number_Sc_4 N (hd_Scanner_number_Sc_4 N m) x1 (-1) (nI i) s = _
    unfold bd_Scanner_number_Sc_4 bk_Scanner_number_Sc_40
    rw [h.1]
    by_cases c : i < n
    · rw [if_neg (nI_ge c (by omega)), if_neg (nI_in (show i < 65536 by omega) (by decide)), nI_clamp (by omega), txt_at h c, continuesWord_C lt, ex_bind rfl]
      dsimp only
      rw [if_neg (nI_inN (show i < 65536 by omega) (by omega)), if_neg (nI_inN (show i < 65536 by omega) (by omega)), txt_at h c, nI_1]
      have q39 : (kch (ch i) = (39 : Int32)) = (ch i = 39) := kq lt 39 (by decide)
      cases g : cinn (ch i)
      · rw [if_pos (show b01 false = 0 from rfl), ffz (pni ch) (by simp [pni, g])]
        by_cases c2 : ch i = 39
        · rw [if_pos (q39.mpr c2), if_pos rfl, if_pos (q39.mpr c2), if_pos c2]
          have e := nb2_C (N := N) (x1 := x1) h (show i < 2 ^ 31 by omega) m (i + 1) (n - (i + 1)) (by omega) (by omega) (by omega)
          rw [e]
          have p256 : pni ch n = true := by rw [pni, h.2.2.2 n (Nat.le_refl n)]; rfl
          have eq : ff (pni ch) n (i + 1) = ff (pni ch) (n - (i + 1)) (i + 1) := by
            refine ff_more (pni ch) (n - (i + 1)) n (i + 1) ?_ (by omega)
            by_cases z : ff (pni ch) (n - (i + 1)) (i + 1) < (i + 1) + (n - (i + 1))
            · exact ff_yes _ _ _ z
            · have le := ff_le (pni ch) (n - (i + 1)) (i + 1)
              rw [show ff (pni ch) (n - (i + 1)) (i + 1) = n by omega]; exact p256
          rw [eq]
        · rw [if_neg (fun z => c2 (q39.mp z)), if_neg c2]
      · obtain ⟨f, rfl⟩ : ∃ f', f = f' + 1 := ⟨f - 1, by omega⟩
        rw [if_neg (show ¬ b01 true = 0 by decide), if_neg (fun z => inn39 g (q39.mp z)), ffs (pni ch) (by simp [pni, g])]
        exact ih (i + 1) f (by omega) (by omega) (by omega) (by omega)
    · have e256 := h.2.2.2 i (by omega)
      rw [if_pos (nI_le (by omega) (by omega)), ffz (pni ch) (by rw [pni, e256]; rfl), if_neg (by omega)]
theorem txt_ff {s : ms} {n k : Nat} {ch : Nat → Nat} (h : Txt s n ch) (p : Nat → Bool) (hp : ∀ j, ch j = 256 → p j = true) (hk : k ≤ n) : k ≤ ff p n k ∧ ff p n k ≤ n ∧ p (ff p n k) = true := by
  have a := ff_ge p n k
  have e : ch n = 256 := h.2.2.2 n (Nat.le_refl n)
  by_cases c : ff p n k ≤ n
  · refine ⟨a, c, ?_⟩
    by_cases c2 : ff p n k < k + n
    · exact ff_yes p n k c2
    · have : ff p n k = n := by omega
      rw [this]; exact hp n e
  · have := ff_no p n k n hk (by omega)
    rw [hp n e] at this; cases this
theorem dig_inn {c : Nat} (h : cdig c = true) : cinn c = true := by unfold cinn; rw [h]; simp
/-- what the class does with the number at k: D its digits' value, e its end -/
theorem number_C {N n k : Nat} {ch : Nat → Nat} {s : ms} (h : Txt s n ch) (hN : n < N) (hk : k < n) :
    (nkind ch k (ff (pnd ch) n k) (nend ch n k) = 401 → dval ch 10 (nend ch n k - k) k 0 < 2 ^ 16 ∧ fn_Scanner_number_Sc N (nI k) s = (fn_Tokens_add_Tk N 3 (nI k) (nI (dval ch 10 (nend ch n k - k) k 0)) s).bind (fun q_4 => some (nI (nend ch n k), q_4.2)))
    ∧ (nkind ch k (ff (pnd ch) n k) (nend ch n k) = 402 → fn_Scanner_number_Sc N (nI k) s = (szd N (nI k) (dval ch 10 (ff (pnd ch) n k - k) k 0) (dval ch (nbase (ch (ff (pnd ch) n k + 1))) (nend ch n k - (ff (pnd ch) n k + 2)) (ff (pnd ch) n k + 2) 0) s).bind (fun q_1 => if q_1.1 = 0 then some (-1, q_1.2) else some (nI (nend ch n k), q_1.2)))
    ∧ (nkind ch k (ff (pnd ch) n k) (nend ch n k) = 404 → fn_Scanner_number_Sc N (nI k) s = some (-1, s)) := by
  have hn := h.2.1
  obtain ⟨a1, a2, a3⟩ := txt_ff h (pnd ch) (fun j q => by rw [pnd, q]; rfl) (show k ≤ n by omega)
  obtain ⟨b1, b2, b3⟩ := txt_ff h (pni ch) (fun j q => by rw [pni, q]; rfl) (show k ≤ n by omega)
  have run := nb1_C (N := N) (x1 := nI k) h hN N k n (by omega) (by omega) (by omega) hN
  have dg : ∀ j, k ≤ j → j < ff (pnd ch) n k → cdig (ch j) = true := fun j j1 j2 => by
    have := ff_no (pnd ch) n k j j1 j2
    simpa [pnd] using this
  obtain ⟨d, hd⟩ : ∃ d, d = ff (pnd ch) n k := ⟨_, rfl⟩
  obtain ⟨e, he⟩ : ∃ e, e = ff (pni ch) n k := ⟨_, rfl⟩
  rw [← hd] at a1 a2 a3 dg
  rw [← he] at b1 b2 b3 run
  have de : d ≤ e := by
    by_cases z : d ≤ e
    · exact z
    · have := dig_inn (dg e b1 (by omega))
      simp [pni, this] at b3
  have nd : cdig (ch d) = false := by simpa [pnd] using a3
  show (nkind ch k (ff (pnd ch) n k) (nend ch n k) = 401 → _ ∧ hd_Scanner_number_Sc_4 N N (nI k) (-1) (nI k) s = _) ∧ (_ → hd_Scanner_number_Sc_4 N N (nI k) (-1) (nI k) s = _) ∧ (_ → hd_Scanner_number_Sc_4 N N (nI k) (-1) (nI k) s = _)
  rw [run, ← hd]
  -- the reference's end is the class's
  have hin : ∀ j, k ≤ j → j < e → cinn (ch j) = true := fun j j1 j2 => by
    have := ff_no (pni ch) n k j j1 (by rw [← he]; exact j2)
    simpa [pni] using this
  by_cases c39 : ch d = 39
  · have ed : d = e := by
      by_cases z : d < e
      · exact absurd c39 (inn39 (hin d a1 z))
      · omega
    subst ed
    have en : nend ch n k = ff (pni ch) n (d + 1) := by unfold nend; rw [← hd, if_pos c39]
    have dn : d < n := by
      by_cases z : d < n
      · exact z
      · have := h.2.2.2 d (by omega); omega
    obtain ⟨g1, g2, -⟩ := txt_ff h (pni ch) (fun j q => by rw [pni, q]; rfl) (show d + 1 ≤ n by omega)
    rw [← en] at g1 g2
    rw [if_pos c39, ← en]
    have q1 : ¬ nI d = (-1 : Int32) := fun z => by
      have := congrArg Int32.toInt z
      rw [nI_toInt (by omega), show (-1 : Int32).toInt = -1 from by decide] at this; omega
    unfold bk_Scanner_number_Sc_59
    rw [if_neg q1]
    obtain ⟨s1, s2⟩ := sized_C (N := N) h hN a1 (show d < nend ch n k by omega) g2
    have al : alld ch 10 (d - k) k = true := (alld10 _ _).mpr (fun j j1 j2 => dg j j1 (by omega))
    have nk : (sizedOk ch k d (nend ch n k) → nkind ch k d (nend ch n k) = 402) ∧ (¬ sizedOk ch k d (nend ch n k) → nkind ch k d (nend ch n k) = 404) := by
      unfold nkind
      rw [if_neg (show ¬ d = nend ch n k by omega)]
      constructor
      · intro y
        exact if_pos ⟨c39, by have := y.2.2.1; omega, y.2⟩
      · intro y
        exact if_neg (fun z => y ⟨al, z.2.2⟩)
    by_cases ok : sizedOk ch k d (nend ch n k)
    · rw [nk.1 ok, s1 ok]
      exact ⟨fun z => by omega, fun _ => rfl, fun z => by omega⟩
    · rw [nk.2 ok, s2 ok]
      exact ⟨fun z => by omega, fun z => by omega, fun _ => rfl⟩
  · have en : nend ch n k = e := by
      unfold nend
      rw [← hd, if_neg c39, he]
      refine (ff_only _ de (by omega) (fun j j1 j2 => ff_no (pni ch) n k j (by omega) (by rw [← he]; exact j2)) b3).trans ?_
      exact he.symm ▸ rfl
    rw [en]
    by_cases cde : d = e
    · subst cde
      rw [if_neg c39]
      unfold bk_Scanner_number_Sc_59 nkind
      rw [if_pos rfl, if_pos rfl]
      have al : alld ch 10 (d - k) k = true := (alld10 _ _).mpr (fun j j1 j2 => dg j j1 (by omega))
      have hdm := decimal_C (N := N) (lim := 65535) (s := s) h hN a1 a2 (by decide)
      rw [show (65535 : Int32) = nI 65535 from rfl, hdm, ex_bind rfl]
      dsimp only
      by_cases c : dval ch 10 (d - k) k 0 < 2 ^ 16
      · have vv : (if alld ch 10 (d - k) k = true ∧ dval ch 10 (d - k) k 0 ≤ 65535 then nI (dval ch 10 (d - k) k 0) else -1) = nI (dval ch 10 (d - k) k 0) := if_pos ⟨al, by omega⟩
        rw [if_pos c, vv]
        have q1 : ¬ nI (dval ch 10 (d - k) k 0) = (-1 : Int32) := fun z => by
          have := congrArg Int32.toInt z
          rw [nI_toInt (by omega), show (-1 : Int32).toInt = -1 from by decide] at this; omega
        rw [if_neg q1]
        exact ⟨fun _ => ⟨c, rfl⟩, fun z => by omega, fun z => by omega⟩
      · have vv : (if alld ch 10 (d - k) k = true ∧ dval ch 10 (d - k) k 0 ≤ 65535 then nI (dval ch 10 (d - k) k 0) else -1) = -1 := if_neg (fun z => c (by omega))
        rw [if_neg c, vv, if_pos rfl]
        exact ⟨fun z => by omega, fun z => by omega, fun _ => rfl⟩
    · have lt : d < e := by omega
      have nk : nkind ch k d e = 404 := by unfold nkind; rw [if_neg cde, if_neg (fun z => c39 z.1)]
      rw [nk]
      refine ⟨fun z => by omega, fun z => by omega, fun _ => ?_⟩
      have nal : ¬ alld ch 10 (e - k) k = true := fun z => by
        have := (alld10 _ _).mp z d a1 (by omega)
        rw [nd] at this; cases this
      unfold bk_Scanner_number_Sc_59
      by_cases c2 : ch e = 39
      · rw [if_pos c2]
        have q1 : ¬ nI e = (-1 : Int32) := fun z => by
          have := congrArg Int32.toInt z
          rw [nI_toInt (by omega), show (-1 : Int32).toInt = -1 from by decide] at this; omega
        rw [if_neg q1]
        have en2 : e < n := by
          by_cases z : e < n
          · exact z
          · have := h.2.2.2 e (by omega); omega
        obtain ⟨g1, g2, -⟩ := txt_ff h (pni ch) (fun j q => by rw [pni, q]; rfl) (show e + 1 ≤ n by omega)
        rw [(sized_C (N := N) h hN b1 (show e < ff (pni ch) n (e + 1) by omega) g2).2 (fun z => nal z.1), ex_bind rfl]
        rfl
      · rw [if_neg c2, if_pos rfl, show (65535 : Int32) = nI 65535 from rfl, decimal_C (N := N) h hN b1 b2 (by decide), ex_bind rfl]
        dsimp only
        have vv : (if alld ch 10 (e - k) k = true ∧ dval ch 10 (e - k) k 0 ≤ 65535 then nI (dval ch 10 (e - k) k 0) else -1) = -1 := if_neg (fun z => nal z.1)
        rw [vv, if_pos rfl]
