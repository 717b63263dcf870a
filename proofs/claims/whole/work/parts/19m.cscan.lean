/-! The class's row of tokens. -/
theorem sk_fuel {s : ms} {n : Nat} {ch : Nat → Nat} (h : Txt s n ch) : ∀ (f g k : Nat), k ≤ n → n < k + f → n < k + g → sk ch n f k = sk ch n g k := by
  intro f
  induction f with
  | zero => intro g k h1 h2 h3; omega
  | succ f ih =>
    intro g k h1 h2 h3
    obtain ⟨g, rfl⟩ : ∃ g', g = g' + 1 := ⟨g - 1, by omega⟩
    unfold sk
    by_cases kn : k < n
    · split
      · exact ih g (k + 1) (by omega) (by omega) (by omega)
      · split
        · rename_i _ c
          obtain ⟨a1, a2, a3⟩ := txt_ff h (peol ch) (fun j q => by simp [peol, q]) (show k ≤ n by omega)
          have : ff (peol ch) n k ≠ k := fun z => by rw [z] at a3; simp [peol, c.1] at a3
          exact ih g _ (by omega) (by omega) (by omega)
        · split
          · split
            · rename_i _ _ c d
              have a1 := ff_ge (pcom ch) n (k + 2)
              have a3 : pcom ch (ff (pcom ch) n (k + 2)) = true := ff_yes _ _ _ (by omega)
              have a4 : ch (ff (pcom ch) n (k + 2) + 1) = 47 := by
                simp only [pcom, decide_eq_true_eq] at a3
                rcases a3 with z | z
                · have := (h.2.2.1 _ d).1; omega
                · exact z.2
              have a5 : ff (pcom ch) n (k + 2) + 1 < n := by
                by_cases z : ff (pcom ch) n (k + 2) + 1 < n
                · exact z
                · rw [h.2.2.2 _ (by omega)] at a4; omega
              exact ih g _ (by omega) (by omega) (by omega)
            · rfl
          · rfl
    · have e : ch k = 256 := h.2.2.2 k (by omega)
      have b : cblank (ch k) = false := by rw [e]; decide
      rw [b]
      simp [e]
def Ctk (ch : Nat → Nat) (n : Nat) (ws : List Nat) (ls : List (Nat × Nat)) (t : ms) (T : Nat) (l : List (Nat × Nat × Nat)) : Prop := t.1 212 0 = nI (T + l.length) ∧ ∀ i e, l[i]? = some e → ∃ x, x < 2 ^ 20 ∧ t.2 211 (T + i) = lN (kap e.1 * 2 ^ 40 + e.2.1 * 2 ^ 20 + x) ∧ Xok ch n ws ls e x
theorem Ctk.cons {ch : Nat → Nat} {n T x : Nat} {ws : List Nat} {ls : List (Nat × Nat)} {t : ms} {e : Nat × Nat × Nat} {l : List (Nat × Nat × Nat)} (h : Ctk ch n ws ls t (T + 1) l) (hx : x < 2 ^ 20) (hr : t.2 211 T = lN (kap e.1 * 2 ^ 40 + e.2.1 * 2 ^ 20 + x)) (X : Xok ch n ws ls e x) : Ctk ch n ws ls t T (e :: l) := by
  refine ⟨by rw [h.1, List.length_cons]; congr 1; omega, fun i y hy => ?_⟩
  cases i with
  | zero => cases hy; exact ⟨x, hx, hr, X⟩
  | succ i =>
    have := h.2 i y (by simpa using hy)
    rw [show T + (i + 1) = T + 1 + i by omega]; exact this
theorem add_last {N T p k : Nat} {ch : Nat → Nat} {n : Nat} {s : ms} {ws : List Nat} {ls : List (Nat × Nat)} {e : Nat × Nat × Nat} (hT : s.1 212 0 = nI T) (h1 : T < 65537) (hp : p < 2 ^ 20) (he : kap e.1 = k) (he2 : e.2.1 = p) (h3 : e.1 = 403 ∨ e.1 = 404) : ∃ t : ms, bk_Scanner_scan_Sc_Ds_123 N (nI p) (nI k) s = some ((), t) ∧ Ctk ch n ws ls t T [e] ∧ (∀ i, i < T → t.2 211 i = s.2 211 i) ∧ Eb [212] [211] s t := by
  unfold bk_Scanner_scan_Sc_Ds_123
  have kl := kap_lt e.1
  rw [add_C (x := 0) hT h1 (by omega) hp (by decide) (by decide), obind]
  refine ⟨_, rfl, ⟨rfl, fun i y hy => ?_⟩, fun i hi => updL_ne (by omega), (Eb.rfl.upJ (by decide)).upI (by decide)⟩
  cases i with
  | zero =>
    cases hy
    refine ⟨0, by decide, ?_, fun z1 z2 => by omega, fun z => by omega, fun z => by omega⟩
    rw [he, he2]; exact updL_at _ _ _
  | succ i => simp at hy
theorem scan_C0 {N n : Nat} {ch : Nat → Nat} (hN : n + 200 < N) (hn : n ≤ 12000) : ∀ (m f k T : Nat) (s : ms) (ws : List Nat) (ls : List (Nat × Nat)), Txt s n ch → k ≤ n → n < k + m → n < k + f → T ≤ k → s.1 212 0 = nI T → Wt s n ch ws → Lit s ls → ws.length ≤ T → ls.length ≤ T → (∀ w, w < ws.length → ws.getD w 0 ≤ k) →
    ∃ (t : ms) (ws' : List Nat) (ls' : List (Nat × Nat)), hd_Scanner_scan_Sc_Ds_56 N m (nI k) 1 s = some ((), t) ∧ Ctk ch n ws' ls' t T (tks ch n f k) ∧ (∀ i, i < T → t.2 211 i = s.2 211 i) ∧ Wt t n ch ws' ∧ Lit t ls' ∧ Pre ws ws' ∧ Pre ls ls' ∧ ws'.length ≤ n ∧ ls'.length ≤ n ∧ Eb [212, 224, 225, 226, 227, 228, 338, 340] [211, 339] s t := by
  intro m
  induction m with
  | zero => intro f k T s ws ls h h1 h2; omega
  | succ m ih =>
    intro f k T s ws ls h h1 h2 h3 h4 hT W L h5 h6 hle
    obtain ⟨f, rfl⟩ : ∃ f', f = f' + 1 := ⟨f - 1, by omega⟩
    show ∃ (t : ms) (ws' : List Nat) (ls' : List (Nat × Nat)), bd_Scanner_scan_Sc_Ds_56 N (hd_Scanner_scan_Sc_Ds_56 N m) (nI k) 1 s = _ ∧ _
    unfold bd_Scanner_scan_Sc_Ds_56
    rw [if_neg (show ¬ (1 : Int32) = 0 by decide), h.1]
    by_cases kn : k < n
    · have bad : ∀ e, tks ch n (f + 1) k = [(404, k, e)] → ∃ (t : ms) (ws' : List Nat) (ls' : List (Nat × Nat)), hd_Scanner_scan_Sc_Ds_56 N m (nI k) 0 s = some ((), t) ∧ Ctk ch n ws' ls' t T (tks ch n (f + 1) k) ∧ (∀ i, i < T → t.2 211 i = s.2 211 i) ∧ Wt t n ch ws' ∧ Lit t ls' ∧ Pre ws ws' ∧ Pre ls ls' ∧ ws'.length ≤ n ∧ ls'.length ≤ n ∧ Eb [212, 224, 225, 226, 227, 228, 338, 340] [211, 339] s t := by
        intro e he
        obtain ⟨m, rfl⟩ : ∃ m', m = m' + 1 := ⟨m - 1, by omega⟩
        rw [he]
        show ∃ (t : ms) (ws' : List Nat) (ls' : List (Nat × Nat)), bd_Scanner_scan_Sc_Ds_56 N (hd_Scanner_scan_Sc_Ds_56 N m) (nI k) 0 s = _ ∧ _
        unfold bd_Scanner_scan_Sc_Ds_56 bk_Scanner_scan_Sc_Ds_110
        rw [if_pos rfl, if_pos rfl]
        obtain ⟨t, t1, t2, t3, t4⟩ := add_last (N := N) (ch := ch) (n := n) (ws := ws) (ls := ls) (k := 1) (p := k) (e := (404, k, e)) hT (by omega) (by omega) rfl rfl (Or.inr rfl)
        exact ⟨t, ws, ls, t1, t2, t3, W.mono (fun j j1 j2 => t4.1 j (by simp; omega)), L.mono (t4.1 _ (by decide)) (t4.1 _ (by decide)) (t4.2 _ (by decide)), Pre.refl _, Pre.refl _, by omega, by omega, t4.mono (by decide) (by decide)⟩
      have on : ∀ (j : Nat) (s2 : ms) (T2 : Nat) (ws2 : List Nat) (ls2 : List (Nat × Nat)) (l : List (Nat × Nat × Nat)), k < j → j ≤ n → tks ch n (f + 1) k = l ++ tks ch n f j → Txt s2 n ch → T2 ≤ j → T2 = T + l.length → s2.1 212 0 = nI T2 → Wt s2 n ch ws2 → Lit s2 ls2 → ws2.length ≤ T2 → ls2.length ≤ T2 → (∀ w, w < ws2.length → ws2.getD w 0 ≤ j) → Pre ws ws2 → Pre ls ls2 → (∀ i, i < T → s2.2 211 i = s.2 211 i) → (∀ i e, l[i]? = some e → ∃ x, x < 2 ^ 20 ∧ s2.2 211 (T + i) = lN (kap e.1 * 2 ^ 40 + e.2.1 * 2 ^ 20 + x) ∧ Xok ch n ws2 ls2 e x) → Eb [212, 224, 225, 226, 227, 228, 338, 340] [211, 339] s s2 →
          ∃ (t : ms) (ws' : List Nat) (ls' : List (Nat × Nat)), hd_Scanner_scan_Sc_Ds_56 N m (nI j) 1 s2 = some ((), t) ∧ Ctk ch n ws' ls' t T (tks ch n (f + 1) k) ∧ (∀ i, i < T → t.2 211 i = s.2 211 i) ∧ Wt t n ch ws' ∧ Lit t ls' ∧ Pre ws ws' ∧ Pre ls ls' ∧ ws'.length ≤ n ∧ ls'.length ≤ n ∧ Eb [212, 224, 225, 226, 227, 228, 338, 340] [211, 339] s t := by
        intro j s2 T2 ws2 ls2 l j1 j2 e hs2 a1 a2 a3 W2 L2 a4 a5 a6 P1 P2 a7 a8 E2
        obtain ⟨t, ws', ls', b1, b2, b3, b4, b5, b6, b7, b8, b9, b10⟩ := ih f j T2 s2 ws2 ls2 hs2 j2 (by omega) (by omega) a1 a3 W2 L2 a4 a5 a6
        refine ⟨t, ws', ls', b1, ?_, fun i hi => by rw [b3 i (by omega), a7 i hi], b4, b5, P1.trans b6, P2.trans b7, b8, b9, E2.trans b10⟩
        rw [e]
        refine ⟨by rw [b2.1, a2, List.length_append]; congr 1; omega, fun i y hy => ?_⟩
        by_cases z : i < l.length
        · rw [List.getElem?_append_left z] at hy
          obtain ⟨x, x1, x2, x3⟩ := a8 i y hy
          exact ⟨x, x1, by rw [b3 _ (by omega)]; exact x2, x3.mono b6 b7⟩
        · rw [List.getElem?_append_right (by omega)] at hy
          have := b2.2 _ y hy
          rw [a2, show T + l.length + (i - l.length) = T + i by omega] at this; exact this
      rw [if_neg (nI_ge kn (by omega)), skipped_C h (by omega) kn, obind]
      dsimp only
      have eqs : ∀ j, k < j → j ≤ n → sk ch n (n + 1) k = sk ch n n j → tks ch n (f + 1) k = tks ch n (f + 1) j := by
        intro j j1 j2 e
        unfold tks
        rw [e, sk_fuel h n (n + 1) j j2 (by omega) (by omega)]
      have tkf : ∀ (f g j : Nat), j ≤ n → n < j + f → n < j + g → tks ch n f j = tks ch n g j := by
        intro f
        induction f with
        | zero => intro g j g1 g2 g3; omega
        | succ f ihf =>
          intro g j g1 g2 g3
          obtain ⟨g, rfl⟩ : ∃ g', g = g' + 1 := ⟨g - 1, by omega⟩
          unfold tks
          split
          · rfl
          · split
            · rfl
            · split
              · rfl
              · rename_i _ c _
                have hS : Src ((fun k => if k = 2 then (fun _ => nI n) else fun i => nI (ch i)), fun _ _ => 0) n ch := by
                  refine ⟨rfl, h.2.1, fun i hi => ⟨(h.2.2.1 i hi).1, ?_⟩, h.2.2.2⟩
                  have lt := (h.2.2.1 i hi).1
                  have key : ∀ c : Fin 256, (nI c.1) &&& 255 = nI c.1 := by decide +kernel
                  exact key ⟨ch i, lt⟩
                have t1 := tkind_in hS (show (sk ch n (n + 1) j).1 < n by omega)
                have t2 := sk_in hS (n + 1) j g1
                rw [ihf g _ t1.2.1 (by omega) (by omega)]
      unfold skip1
      by_cases c1 : cblank (ch k) = true
      · rw [if_pos c1, if_neg (show ¬ nI (k + 1) = nI k from fun z => by have := (nI_eq (by omega) (by omega)).mp z; omega)]
        unfold bk_Scanner_scan_Sc_Ds_88 bk_Scanner_scan_Sc_Ds_99
        rw [if_neg (nI_ge (show k < k + 1 by omega) (by omega)), if_neg (show ¬ (1 : Int32) = 0 by decide)]
        have e := eqs (k + 1) (by omega) (by omega) (by conv => lhs; unfold sk
                                                        rw [if_pos c1])
        exact on (k + 1) s T ws ls [] (by omega) (by omega) (by rw [e, tkf (f + 1) f (k + 1) (by omega) (by omega) (by omega)]; rfl) h (by omega) rfl hT W L h5 h6 (fun w hw => by have := hle w hw; omega) (Pre.refl _) (Pre.refl _) (fun _ _ => rfl) (fun i e he => by simp at he) Eb.rfl
      · rw [if_neg c1]
        by_cases c2 : ch k = 47 ∧ ch (k + 1) = 47
        · rw [if_pos c2]
          obtain ⟨a1, a2, a3⟩ := txt_ff h (peol ch) (fun j q => by simp [peol, q]) (show k ≤ n by omega)
          have ne : ff (peol ch) n k ≠ k := fun z => by rw [z] at a3; simp [peol, c2.1] at a3
          rw [if_neg (show ¬ nI (ff (peol ch) n k) = nI k from fun z => by have := (nI_eq (by omega) (by omega)).mp z; omega)]
          unfold bk_Scanner_scan_Sc_Ds_88 bk_Scanner_scan_Sc_Ds_99
          rw [if_neg (nI_ge (show k < ff (peol ch) n k by omega) (by omega)), if_neg (show ¬ (1 : Int32) = 0 by decide)]
          have e := eqs (ff (peol ch) n k) (by omega) (by omega) (by conv => lhs; unfold sk
                                                                     rw [if_neg c1, if_pos c2])
          exact on _ s T ws ls [] (by omega) (by omega) (by rw [e, tkf (f + 1) f _ (by omega) (by omega) (by omega)]; rfl) h (by omega) rfl hT W L h5 h6 (fun w hw => by have := hle w hw; omega) (Pre.refl _) (Pre.refl _) (fun _ _ => rfl) (fun i e he => by simp at he) Eb.rfl
        · rw [if_neg c2]
          by_cases c3 : ch k = 47 ∧ ch (k + 1) = 42
          · rw [if_pos c3]
            by_cases c4 : ff (pcom ch) n (k + 2) < n
            · have a1 := ff_ge (pcom ch) n (k + 2)
              have a3 : pcom ch (ff (pcom ch) n (k + 2)) = true := ff_yes _ _ _ (by omega)
              have a4 : ch (ff (pcom ch) n (k + 2) + 1) = 47 := by
                simp only [pcom, decide_eq_true_eq] at a3
                rcases a3 with z | z
                · have := (h.2.2.1 _ c4).1; omega
                · exact z.2
              have a5 : ff (pcom ch) n (k + 2) + 1 < n := by
                by_cases z : ff (pcom ch) n (k + 2) + 1 < n
                · exact z
                · rw [h.2.2.2 _ (by omega)] at a4; omega
              rw [if_pos c4, if_neg (show ¬ nI (ff (pcom ch) n (k + 2) + 2) = nI k from fun z => by have := (nI_eq (by omega) (by omega)).mp z; omega)]
              unfold bk_Scanner_scan_Sc_Ds_88 bk_Scanner_scan_Sc_Ds_99
              rw [if_neg (nI_ge (show k < ff (pcom ch) n (k + 2) + 2 by omega) (by omega)), if_neg (show ¬ (1 : Int32) = 0 by decide)]
              have e := eqs (ff (pcom ch) n (k + 2) + 2) (by omega) (by omega) (by conv => lhs; unfold sk
                                                                                   rw [if_neg c1, if_neg c2, if_pos c3, if_pos c4])
              exact on _ s T ws ls [] (by omega) (by omega) (by rw [e, tkf (f + 1) f _ (by omega) (by omega) (by omega)]; rfl) h (by omega) rfl hT W L h5 h6 (fun w hw => by have := hle w hw; omega) (Pre.refl _) (Pre.refl _) (fun _ _ => rfl) (fun i e he => by simp at he) Eb.rfl
            · rw [if_neg c4, if_neg (show ¬ (-1 : Int32) = nI k from of_eq_false (nm1F' (a := k) (by omega)))]
              unfold bk_Scanner_scan_Sc_Ds_88 bk_Scanner_scan_Sc_Ds_99
              rw [if_pos (show (-1 : Int32) ≤ nI k from of_eq_true (m1le (a := k) (by omega))), if_pos rfl]
              refine bad n ?_
              unfold tks
              have : sk ch n (n + 1) k = (k, false) := by
                unfold sk
                rw [if_neg c1, if_neg c2, if_pos c3, if_neg c4]
              rw [this, if_pos rfl]
          · rw [if_neg c3, if_pos rfl]
            have esk : sk ch n (n + 1) k = (k, true) := by
              unfold sk
              rw [if_neg c1, if_neg c2, if_neg c3]
            obtain ⟨k1, k2⟩ := token_C (N := N) h hN hn kn W L hT h4 h5 h6 hle
            by_cases c4 : (tkind ch n k).1 = 404
            · rw [k1 c4, obind]
              unfold bk_Scanner_scan_Sc_Ds_88 bk_Scanner_scan_Sc_Ds_99
              rw [if_pos (show (-1 : Int32) ≤ nI k from of_eq_true (m1le (a := k) (by omega))), if_pos rfl]
              refine bad (tkind ch n k).2 ?_
              unfold tks
              rw [esk, if_neg (show ¬ (true = false) by decide), if_neg (by dsimp only; omega), if_pos c4]
            · obtain ⟨t, t1, x, ws', ls', a1, a2, a3, a4, a5, a6, a7, a8, a9, a10, a11, a12⟩ := k2 c4
              have hS : Src ((fun k => if k = 2 then (fun _ => nI n) else fun i => nI (ch i)), fun _ _ => 0) n ch := by
                refine ⟨rfl, h.2.1, fun i hi => ⟨(h.2.2.1 i hi).1, ?_⟩, h.2.2.2⟩
                have lt := (h.2.2.1 i hi).1
                have key : ∀ c : Fin 256, (nI c.1) &&& 255 = nI c.1 := by decide +kernel
                exact key ⟨ch i, lt⟩
              have ti := tkind_in hS kn
              rw [t1, obind]
              unfold bk_Scanner_scan_Sc_Ds_88 bk_Scanner_scan_Sc_Ds_99
              rw [if_neg (nI_ge (show k < (tkind ch n k).2 by omega) (by omega)), if_neg (show ¬ (1 : Int32) = 0 by decide)]
              refine on (tkind ch n k).2 t (T + 1) ws' ls' [((tkind ch n k).1, k, (tkind ch n k).2)] ti.1 ti.2.1 ?_ (h.mono (a12.1 _ (by decide)) (a12.1 _ (by decide))) (by omega) rfl a1 a5 a6 a9 a10 (fun w hw => by have := a11 w hw; omega) a7 a8 (fun i hi => by rw [a2, updL_ne (by omega)]) ?_ a12
              · conv => lhs; unfold tks
                rw [esk, if_neg (show ¬ (true = false) by decide), if_neg (by dsimp only; omega), if_neg c4]
                rfl
              · intro i e he
                cases i with
                | zero => cases he; exact ⟨x, a3, by rw [a2]; exact updL_at _ _ _, a4⟩
                | succ i => simp at he
    · obtain rfl : k = n := by omega
      rw [if_pos (nI_le (Nat.le_refl _) (by omega))]
      unfold bk_Scanner_scan_Sc_Ds_110
      rw [if_neg (show ¬ (1 : Int32) = 0 by decide)]
      have e0 : ch k = 256 := h.2.2.2 k (Nat.le_refl _)
      have etk : tks ch k (f + 1) k = [(403, k, k)] := by
        unfold tks
        have : sk ch k (k + 1) k = (k, true) := by
          unfold sk
          have b : cblank (ch k) = false := by rw [e0]; decide
          rw [b]; simp [e0]
        rw [this]; simp
      rw [etk]
      obtain ⟨t, t1, t2, t3, t4⟩ := add_last (N := N) (ch := ch) (n := k) (ws := ws) (ls := ls) (k := 0) (p := k) (e := (403, k, k)) hT (by omega) (by omega) rfl rfl (Or.inl rfl)
      exact ⟨t, ws, ls, t1, t2, t3, W.mono (fun j j1 j2 => t4.1 j (by simp; omega)), L.mono (t4.1 _ (by decide)) (t4.1 _ (by decide)) (t4.2 _ (by decide)), Pre.refl _, Pre.refl _, by omega, by omega, t4.mono (by decide) (by decide)⟩
theorem scan_C {N n : Nat} {ch : Nat → Nat} {s : ms} (hN : n + 200 < N) (hn : n ≤ 12000) (h1 : s.1 308 0 = nI n) (h2 : ∀ k, k < n → ch k < 256 ∧ s.1 307 k = kch (ch k)) (h3 : ∀ k, n ≤ k → ch k = 256) (h4 : s.1 340 0 = 0) :
    ∃ (t : ms) (ws : List Nat) (ls : List (Nat × Nat)), fn_Scanner_scan_Sc_Ds N s = some ((), t) ∧ Ctk ch n ws ls t 0 (tks ch n (n + 1) 0) ∧ Wt t n ch ws ∧ Lit t ls ∧ ws.length ≤ n ∧ ls.length ≤ n ∧ Txt t n ch ∧ Eb [212, 222, 224, 225, 226, 227, 228, 338, 340] [211, 339] s t := by
  unfold fn_Scanner_scan_Sc_Ds fn_Tokens_clear_Tk
  rw [obind, h1, if_neg (show ¬ (65536 : Int32) < nI n from of_eq_false (nltF (a := 65536) (by omega) (by omega)))]
  have T0 : Txt (upI (upI (upI (upI s 222 (fun _ => nI n)) 212 (fun _ => 0)) 224 (xk_fillv 256 (-1) (s.1 224))) 228 (fun _ => 0)) n ch := ⟨rfl, by omega, h2, h3⟩
  have W0 : Wt (upI (upI (upI (upI s 222 (fun _ => nI n)) 212 (fun _ => 0)) 224 (xk_fillv 256 (-1) (s.1 224))) 228 (fun _ => 0)) n ch [] := by
    refine ⟨rfl, fun w hw => by simp at hw, fun w v hw => by simp at hw, fun j hj => ?_⟩
    show xk_fillv 256 (-1) (s.1 224) j = -1
    exact if_pos hj
  obtain ⟨t, ws, ls, a1, a2, a3, a4, a5, a6, a7, a8, a9, a10⟩ := scan_C0 hN hn N (n + 1) 0 0 _ [] [] T0 (by omega) (by omega) (by omega) (by omega) rfl W0 ⟨h4, fun j e he => by simp at he⟩ (Nat.le_refl _) (Nat.le_refl _) (fun w hw => by simp at hw)
  refine ⟨t, ws, ls, a1, a2, a4, a5, a8, a9, T0.mono (a10.1 _ (by decide)) (a10.1 _ (by decide)), ?_⟩
  exact ((((Eb.rfl.upI (by decide)).upI (by decide)).upI (by decide)).upI (by decide)).trans (a10.mono (by decide) (by decide))
