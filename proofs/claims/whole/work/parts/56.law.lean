set_option maxRecDepth 20000 in
theorem l_head (L : Nat) (xs : Nat → Int32) (nf ns : Nat) (o : Nat → Int64) (s t : KS) (v : Int32) (b : Nat × Nat) : ∀ f n : Nat, g_law L xs n (f + 6) 43 [(0, .inl (.retAddr 1)), (1, .inl (.ref 0)), (2, .inl (.ref 15)), (3, .inl (.ref 29)), (4, .inl (.int v))] [] (lH nf ns o s t) b = cond (decide ((Int32.ofNat L) - 4 < v)) (g_law L xs n f 966 [(0, .inl (.retAddr 1)), (1, .inl (.ref 0)), (2, .inl (.ref 15)), (3, .inl (.ref 29)), (4, .inl (.int v))] [] (lH nf ns o s t) b) (g_law L xs n f 52 [(0, .inl (.retAddr 1)), (1, .inl (.ref 0)), (2, .inl (.ref 15)), (3, .inl (.ref 29)), (4, .inl (.int v))] [] (lH nf ns o s t) b) := fun f n => rfl
set_option maxRecDepth 20000 in
theorem l_end (L : Nat) (xs : Nat → Int32) (nf ns : Nat) (o : Nat → Int64) (s t : KS) (v : Int32) (b : Nat × Nat) : ∀ f n : Nat, g_law L xs n (f + 2) 966 [(0, .inl (.retAddr 1)), (1, .inl (.ref 0)), (2, .inl (.ref 15)), (3, .inl (.ref 29)), (4, .inl (.int v))] [] (lH nf ns o s t) b = some (.inl (some (.inl (.int 1))), (lH nf ns o s t)) := fun f n => rfl
set_option maxRecDepth 20000 in
theorem l_next (L : Nat) (xs : Nat → Int32) (nf ns : Nat) (o : Nat → Int64) (s t : KS) (v : Int32) (b : Nat × Nat) : ∀ f n : Nat, g_law L xs n (f + 2) 960 [(0, .inl (.retAddr 1)), (1, .inl (.ref 0)), (2, .inl (.ref 15)), (3, .inl (.ref 29)), (4, .inl (.int v))] [] (lH nf ns o s t) b = j_law L xs n 43 [(0, .inl (.retAddr 1)), (1, .inl (.ref 0)), (2, .inl (.ref 15)), (3, .inl (.ref 29)), (4, .inl (.int (v + 4)))] [] (lH nf ns o s t) b := fun f n => rfl
set_option maxRecDepth 20000 in
theorem l_sw (L : Nat) (xs : Nat → Int32) (nf ns : Nat) (o : Nat → Int64) (s t : KS) (v : Int32) (b : Nat × Nat) : ∀ f n : Nat, g_law L xs n (f + 6) 52 [(0, .inl (.retAddr 1)), (1, .inl (.ref 0)), (2, .inl (.ref 15)), (3, .inl (.ref 29)), (4, .inl (.int v))] [] (lH nf ns o s t) b = cond (am_in v L) (cond (decide (((xs v.toNatClampNeg &&& 15)).toInt = 0)) (g_law L xs n f 124 [(0, .inl (.retAddr 1)), (1, .inl (.ref 0)), (2, .inl (.ref 15)), (3, .inl (.ref 29)), (4, .inl (.int v))] [] (lH nf ns o s t) b) (cond (decide (((xs v.toNatClampNeg &&& 15)).toInt = 1)) (g_law L xs n f 180 [(0, .inl (.retAddr 1)), (1, .inl (.ref 0)), (2, .inl (.ref 15)), (3, .inl (.ref 29)), (4, .inl (.int v))] [] (lH nf ns o s t) b) (cond (decide (((xs v.toNatClampNeg &&& 15)).toInt = 2)) (g_law L xs n f 248 [(0, .inl (.retAddr 1)), (1, .inl (.ref 0)), (2, .inl (.ref 15)), (3, .inl (.ref 29)), (4, .inl (.int v))] [] (lH nf ns o s t) b) (cond (decide (((xs v.toNatClampNeg &&& 15)).toInt = 3)) (g_law L xs n f 316 [(0, .inl (.retAddr 1)), (1, .inl (.ref 0)), (2, .inl (.ref 15)), (3, .inl (.ref 29)), (4, .inl (.int v))] [] (lH nf ns o s t) b) (cond (decide (((xs v.toNatClampNeg &&& 15)).toInt = 4)) (g_law L xs n f 372 [(0, .inl (.retAddr 1)), (1, .inl (.ref 0)), (2, .inl (.ref 15)), (3, .inl (.ref 29)), (4, .inl (.int v))] [] (lH nf ns o s t) b) (cond (decide (((xs v.toNatClampNeg &&& 15)).toInt = 5)) (g_law L xs n f 440 [(0, .inl (.retAddr 1)), (1, .inl (.ref 0)), (2, .inl (.ref 15)), (3, .inl (.ref 29)), (4, .inl (.int v))] [] (lH nf ns o s t) b) (cond (decide (((xs v.toNatClampNeg &&& 15)).toInt = 6)) (g_law L xs n f 508 [(0, .inl (.retAddr 1)), (1, .inl (.ref 0)), (2, .inl (.ref 15)), (3, .inl (.ref 29)), (4, .inl (.int v))] [] (lH nf ns o s t) b) (cond (decide (((xs v.toNatClampNeg &&& 15)).toInt = 7)) (g_law L xs n f 588 [(0, .inl (.retAddr 1)), (1, .inl (.ref 0)), (2, .inl (.ref 15)), (3, .inl (.ref 29)), (4, .inl (.int v))] [] (lH nf ns o s t) b) (cond (decide (((xs v.toNatClampNeg &&& 15)).toInt = 8)) (g_law L xs n f 644 [(0, .inl (.retAddr 1)), (1, .inl (.ref 0)), (2, .inl (.ref 15)), (3, .inl (.ref 29)), (4, .inl (.int v))] [] (lH nf ns o s t) b) (cond (decide (((xs v.toNatClampNeg &&& 15)).toInt = 9)) (g_law L xs n f 700 [(0, .inl (.retAddr 1)), (1, .inl (.ref 0)), (2, .inl (.ref 15)), (3, .inl (.ref 29)), (4, .inl (.int v))] [] (lH nf ns o s t) b) (cond (decide (((xs v.toNatClampNeg &&& 15)).toInt = 10)) (g_law L xs n f 768 [(0, .inl (.retAddr 1)), (1, .inl (.ref 0)), (2, .inl (.ref 15)), (3, .inl (.ref 29)), (4, .inl (.int v))] [] (lH nf ns o s t) b) (cond (decide (((xs v.toNatClampNeg &&& 15)).toInt = 11)) (g_law L xs n f 836 [(0, .inl (.retAddr 1)), (1, .inl (.ref 0)), (2, .inl (.ref 15)), (3, .inl (.ref 29)), (4, .inl (.int v))] [] (lH nf ns o s t) b) (cond (decide (((xs v.toNatClampNeg &&& 15)).toInt = 12)) (g_law L xs n f 904 [(0, .inl (.retAddr 1)), (1, .inl (.ref 0)), (2, .inl (.ref 15)), (3, .inl (.ref 29)), (4, .inl (.int v))] [] (lH nf ns o s t) b) (g_law L xs n f 960 [(0, .inl (.retAddr 1)), (1, .inl (.ref 0)), (2, .inl (.ref 15)), (3, .inl (.ref 29)), (4, .inl (.int v))] [] (lH nf ns o s t) b)))))))))))))) none := fun f n => rfl
theorem l_cond {L i : Nat} (hL : L ≤ 2050) (hi : i < 100000) : ((Int32.ofNat L) - 4 < nn i) = (L < i + 4) := by
  rw [nn_lit]
  by_cases h : 4 ≤ L
  · rw [show nn L - 4 = nn (L - 4) from nn_sub (a := L) (b := 4) h, nn_lt (by omega) (by omega)]
    exact propext (by omega)
  · refine (eq_true ?_).trans (eq_true (by omega)).symm
    have h0 : nn L - 4 < 0 := by
      have : L = 0 ∨ L = 1 ∨ L = 2 ∨ L = 3 := by omega
      rcases this with rfl | rfl | rfl | rfl <;> decide
    exact Int32.lt_of_lt_of_le h0 (by rw [nn_g0 (by omega)]; trivial)
theorem nn_p4 (a : Nat) : nn a + 4 = nn (a + 4) := nn_add a 4
theorem l_turn {L nf ns i b1 b2 : Nat} {xs : Nat → Int32} {o : Nat → Int64} {s t : KS} (hL : L ≤ 2050) (hi : i + 4 ≤ L) (R : RR nf ns s t) (f n : Nat) : ∃ o' s' t' c1 c2, RR nf ns s' t' ∧ b1 ≤ c1 ∧ b2 ≤ c2 ∧ g_law L xs n (f + 59) 52 [(0, .inl (.retAddr 1)), (1, .inl (.ref 0)), (2, .inl (.ref 15)), (3, .inl (.ref 29)), (4, .inl (.int (nn i)))] [] (lH nf ns o s t) (b1 + 6, b2 + 36) = j_law L xs n 43 [(0, .inl (.retAddr 1)), (1, .inl (.ref 0)), (2, .inl (.ref 15)), (3, .inl (.ref 29)), (4, .inl (.int (nn (i + 4))))] [] (lH nf ns o' s' t') (c1, c2) := by
  have hin : ∀ j, j < 4 → am_in (nn i + nn j) L = true := fun j hj => by rw [nn_add, nn_in (by omega)]; exact decide_eq_true (by omega)
  have h0 : am_in (nn i) L = true := by rw [nn_in (by omega)]; exact decide_eq_true (by omega)
  have e := l_sw L xs nf ns o s t (nn i) (b1 + 6, b2 + 36) (f + 53) n
  rw [h0, cond_true, nn_tn (by omega)] at e
  rw [show f + 59 = (f + 53) + 6 by omega, e]
  clear e
  by_cases c0 : (xs i &&& 15).toInt = 0
  · obtain ⟨o', s', t', c, d, R', T'⟩ := it_fork (L := L) (xs := xs) (o := o) (v := nn i) (bc := b1) (bs := b2) R (hin 1 (by omega))
    refine ⟨o', s', t', b1 + c, b2 + d, R', by omega, by omega, ?_⟩
    rw [decide_eq_true c0, cond_true, show f + 53 = (f + 20) + 33 by omega]
    refine (T' (f + 20) n).trans ?_
    rw [nn_p4]
  rw [decide_eq_false c0, cond_false]
  by_cases c1 : (xs i &&& 15).toInt = 1
  · obtain ⟨o', s', t', c, d, R', T'⟩ := it_exec (L := L) (xs := xs) (o := o) (v := nn i) (bc := b1) (bs := b2) R (hin 1 (by omega)) (hin 2 (by omega))
    refine ⟨o', s', t', b1 + c, b2 + d, R', by omega, by omega, ?_⟩
    rw [decide_eq_true c1, cond_true, show f + 53 = (f + 10) + 43 by omega]
    refine (T' (f + 10) n).trans ?_
    rw [nn_p4]
  rw [decide_eq_false c1, cond_false]
  by_cases c2 : (xs i &&& 15).toInt = 2
  · obtain ⟨o', s', t', c, d, R', T'⟩ := it_exit (L := L) (xs := xs) (o := o) (v := nn i) (bc := b1) (bs := b2) R (hin 1 (by omega)) (hin 2 (by omega))
    refine ⟨o', s', t', b1 + c, b2 + d, R', by omega, by omega, ?_⟩
    rw [decide_eq_true c2, cond_true, show f + 53 = (f + 10) + 43 by omega]
    refine (T' (f + 10) n).trans ?_
    rw [nn_p4]
  rw [decide_eq_false c2, cond_false]
  by_cases c3 : (xs i &&& 15).toInt = 3
  · obtain ⟨o', s', t', c, d, R', T'⟩ := it_await (L := L) (xs := xs) (o := o) (v := nn i) (bc := b1) (bs := b2) R (hin 1 (by omega))
    refine ⟨o', s', t', b1 + c, b2 + d, R', by omega, by omega, ?_⟩
    rw [decide_eq_true c3, cond_true, show f + 53 = (f + 20) + 33 by omega]
    refine (T' (f + 20) n).trans ?_
    rw [nn_p4]
  rw [decide_eq_false c3, cond_false]
  by_cases c4 : (xs i &&& 15).toInt = 4
  · obtain ⟨o', s', t', c, d, R', T'⟩ := it_grow (L := L) (xs := xs) (o := o) (v := nn i) (bc := b1) (bs := b2) R (hin 1 (by omega)) (hin 2 (by omega))
    refine ⟨o', s', t', b1 + c, b2 + d, R', by omega, by omega, ?_⟩
    rw [decide_eq_true c4, cond_true, show f + 53 = (f + 10) + 43 by omega]
    refine (T' (f + 10) n).trans ?_
    rw [nn_p4]
  rw [decide_eq_false c4, cond_false]
  by_cases c5 : (xs i &&& 15).toInt = 5
  · obtain ⟨o', s', t', c, d, R', T'⟩ := it_read (L := L) (xs := xs) (o := o) (v := nn i) (bc := b1) (bs := b2) R (hin 1 (by omega)) (hin 2 (by omega))
    refine ⟨o', s', t', b1 + c, b2 + d, R', by omega, by omega, ?_⟩
    rw [decide_eq_true c5, cond_true, show f + 53 = (f + 10) + 43 by omega]
    refine (T' (f + 10) n).trans ?_
    rw [nn_p4]
  rw [decide_eq_false c5, cond_false]
  by_cases c6 : (xs i &&& 15).toInt = 6
  · obtain ⟨o', s', t', c, d, R', T'⟩ := it_write (L := L) (xs := xs) (o := o) (v := nn i) (bc := b1) (bs := b2) R (hin 1 (by omega)) (hin 2 (by omega)) (hin 3 (by omega))
    refine ⟨o', s', t', b1 + c, b2 + d, R', by omega, by omega, ?_⟩
    rw [decide_eq_true c6, cond_true, show f + 53 = (f + 0) + 53 by omega]
    refine (T' (f + 0) n).trans ?_
    rw [nn_p4]
  rw [decide_eq_false c6, cond_false]
  by_cases c7 : (xs i &&& 15).toInt = 7
  · obtain ⟨o', s', t', c, d, R', T'⟩ := it_sweep (L := L) (xs := xs) (o := o) (v := nn i) (bc := b1) (bs := b2) R (hin 1 (by omega))
    refine ⟨o', s', t', b1 + c, b2 + d, R', by omega, by omega, ?_⟩
    rw [decide_eq_true c7, cond_true, show f + 53 = (f + 20) + 33 by omega]
    refine (T' (f + 20) n).trans ?_
    rw [nn_p4]
  rw [decide_eq_false c7, cond_false]
  by_cases c8 : (xs i &&& 15).toInt = 8
  · obtain ⟨o', s', t', c, d, R', T'⟩ := it_swapOut (L := L) (xs := xs) (o := o) (v := nn i) (bc := b1) (bs := b2) R (hin 1 (by omega))
    refine ⟨o', s', t', b1 + c, b2 + d, R', by omega, by omega, ?_⟩
    rw [decide_eq_true c8, cond_true, show f + 53 = (f + 20) + 33 by omega]
    refine (T' (f + 20) n).trans ?_
    rw [nn_p4]
  rw [decide_eq_false c8, cond_false]
  by_cases c9 : (xs i &&& 15).toInt = 9
  · obtain ⟨o', s', t', c, d, R', T'⟩ := it_where (L := L) (xs := xs) (o := o) (v := nn i) (bc := b1) (bs := b2) R (hin 1 (by omega)) (hin 2 (by omega))
    refine ⟨o', s', t', b1 + c, b2 + d, R', by omega, by omega, ?_⟩
    rw [decide_eq_true c9, cond_true, show f + 53 = (f + 10) + 43 by omega]
    refine (T' (f + 10) n).trans ?_
    rw [nn_p4]
  rw [decide_eq_false c9, cond_false]
  by_cases c10 : (xs i &&& 15).toInt = 10
  · obtain ⟨o', s', t', c, d, R', T'⟩ := it_sharers (L := L) (xs := xs) (o := o) (v := nn i) (bc := b1) (bs := b2) R (hin 1 (by omega)) (hin 2 (by omega))
    refine ⟨o', s', t', b1 + c, b2 + d, R', by omega, by omega, ?_⟩
    rw [decide_eq_true c10, cond_true, show f + 53 = (f + 10) + 43 by omega]
    refine (T' (f + 10) n).trans ?_
    rw [nn_p4]
  rw [decide_eq_false c10, cond_false]
  by_cases c11 : (xs i &&& 15).toInt = 11
  · obtain ⟨o', s', t', c, d, R', T'⟩ := it_fact (L := L) (xs := xs) (o := o) (v := nn i) (bc := b1) (bs := b2) R (hin 1 (by omega)) (hin 2 (by omega))
    refine ⟨o', s', t', b1 + c, b2 + d, R', by omega, by omega, ?_⟩
    rw [decide_eq_true c11, cond_true, show f + 53 = (f + 10) + 43 by omega]
    refine (T' (f + 10) n).trans ?_
    rw [nn_p4]
  rw [decide_eq_false c11, cond_false]
  by_cases c12 : (xs i &&& 15).toInt = 12
  · obtain ⟨o', s', t', c, d, R', T'⟩ := it_count (L := L) (xs := xs) (o := o) (v := nn i) (bc := b1) (bs := b2) R (hin 1 (by omega))
    refine ⟨o', s', t', b1 + c, b2 + d, R', by omega, by omega, ?_⟩
    rw [decide_eq_true c12, cond_true, show f + 53 = (f + 20) + 33 by omega]
    refine (T' (f + 20) n).trans ?_
    rw [nn_p4]
  rw [decide_eq_false c12, cond_false]
  refine ⟨o, s, t, b1 + 6, b2 + 36, R, by omega, by omega, ?_⟩
  rw [show f + 53 = (f + 51) + 2 by omega]
  refine (l_next L xs nf ns o s t (nn i) _ (f + 51) n).trans ?_
  rw [nn_p4]
theorem l_loop {L nf ns : Nat} {xs : Nat → Int32} (hL : L ≤ 2050) : ∀ (m i n f b1 b2 : Nat) (o : Nat → Int64) (s t : KS), L ≤ i + 4 * m → m ≤ n → 6 * m ≤ b1 → 36 * m ≤ b2 → i < 10000 → RR nf ns s t → ∃ h', g_law L xs n (f + 65) 43 [(0, .inl (.retAddr 1)), (1, .inl (.ref 0)), (2, .inl (.ref 15)), (3, .inl (.ref 29)), (4, .inl (.int (nn i)))] [] (lH nf ns o s t) (b1, b2) = some (.inl (some (.inl (.int 1))), h')
  | 0, i, n, f, b1, b2, o, s, t, h1, h2, h3, h4, h5, R => by
    refine ⟨(lH nf ns o s t), ?_⟩
    rw [show f + 65 = (f + 59) + 6 by omega]
    refine (l_head L xs nf ns o s t (nn i) (b1, b2) (f + 59) n).trans ?_
    rw [decide_eq_true (by rw [l_cond hL (by omega)]; omega), cond_true, show f + 59 = (f + 57) + 2 by omega]
    exact l_end L xs nf ns o s t (nn i) (b1, b2) (f + 57) n
  | m + 1, i, n, f, b1, b2, o, s, t, h1, h2, h3, h4, h5, R => by
    rw [show f + 65 = (f + 59) + 6 by omega]
    have e := l_head L xs nf ns o s t (nn i) (b1, b2) (f + 59) n
    by_cases c : L < i + 4
    · refine ⟨(lH nf ns o s t), e.trans ?_⟩
      rw [decide_eq_true (by rw [l_cond hL (by omega)]; exact c), cond_true, show f + 59 = (f + 57) + 2 by omega]
      exact l_end L xs nf ns o s t (nn i) (b1, b2) (f + 57) n
    · obtain ⟨c1, rfl⟩ : ∃ c1, b1 = c1 + 6 := ⟨b1 - 6, by omega⟩
      obtain ⟨c2, rfl⟩ : ∃ c2, b2 = c2 + 36 := ⟨b2 - 36, by omega⟩
      obtain ⟨n', rfl⟩ : ∃ n', n = n' + 1 := ⟨n - 1, by omega⟩
      obtain ⟨o', s', t', d1, d2, R', g1, g2, T'⟩ := l_turn (xs := xs) (o := o) (b1 := c1) (b2 := c2) hL (show i + 4 ≤ L by omega) R f (n' + 1)
      obtain ⟨h', IH⟩ := l_loop (xs := xs) hL m (i + 4) n' 935 d1 d2 o' s' t' (by omega) (by omega) (by omega) (by omega) (by omega) R'
      refine ⟨h', e.trans ?_⟩
      rw [decide_eq_false (by rw [l_cond hL (by omega)]; exact c), cond_false]
      refine T'.trans ((j_law_g L xs n' 43 _ _ _ _).trans IH)
set_option maxRecDepth 20000 in
def g_L_cell (L : Nat) (xs : Nat → Int32) (n f pc : Nat) (lv : am_Lv) (st : List am_V) (h : am_H) (b : Nat × Nat) : Option am_O := am_go X_L_cell 2 (some .int) (am_rsL L xs) [] [] (am_lp T_L_cell X_L_cell 2 (some .int) (am_rsL L xs) [] [] n) f (am_from pc T_L_cell) lv st h b
set_option maxRecDepth 20000 in
theorem cell_h {L : Nat} {xs : Nat → Int32} (hL : L ≤ 2050) (k : Nat) (hk : k < 1000) : ∃ v, ∀ h, F_L_cell (am_rsL L xs) [.inl (.retAddr 1), .inl (.int (nn k))] h = some (.inl (some (.inl (.int v))), h) := by
  have e : ∀ h, F_L_cell (am_rsL L xs) [.inl (.retAddr 1), .inl (.int (nn k))] h = g_L_cell L xs 399 1000 0 [(0, .inl (.retAddr 1)), (1, .inl (.int (nn k)))] [] h (0, 0) := fun h => am_fn_g (T := T_L_cell) (X := X_L_cell) (nL := 2) (rt := some .int) (rs := am_rsL L xs) (hs := []) (kp := []) (n := 399) (b := (0, 0)) (as := [.inl (.retAddr 1), .inl (.int (nn k))]) (h := h) (Nat.le_of_ble_eq_true rfl)
  have b : ∀ (h : am_H) (w : Int32) (f n : Nat), g_L_cell L xs n (f + 4) 0 [(0, .inl (.retAddr 1)), (1, .inl (.int w))] [] h (0, 0) = cond (decide ((Int32.ofNat L) ≤ w)) (g_L_cell L xs n f 12 [(0, .inl (.retAddr 1)), (1, .inl (.int w))] [] h (0, 0)) (g_L_cell L xs n f 6 [(0, .inl (.retAddr 1)), (1, .inl (.int w))] [] h (0, 0)) := fun h w f n => rfl
  have c : ∀ (h : am_H) (w : Int32) (f n : Nat), g_L_cell L xs n (f + 2) 12 [(0, .inl (.retAddr 1)), (1, .inl (.int w))] [] h (0, 0) = some (.inl (some (.inl (.int 0))), h) := fun h w f n => rfl
  have d : ∀ (h : am_H) (w : Int32) (f n : Nat), g_L_cell L xs n (f + 5) 6 [(0, .inl (.retAddr 1)), (1, .inl (.int w))] [] h (0, 0) = cond (am_in w L) (some (.inl (some (.inl (.int (xs w.toNatClampNeg)))), h)) none := fun h w f n => rfl
  by_cases z : L ≤ k
  · refine ⟨0, fun h => (e h).trans ((b h (nn k) 996 399).trans ?_)⟩
    rw [decide_eq_true (show Int32.ofNat L ≤ nn k by rw [nn_lit, nn_le (by omega) (by omega)]; exact z), cond_true]
    exact c h (nn k) 994 399
  · refine ⟨xs k, fun h => (e h).trans ((b h (nn k) 996 399).trans ?_)⟩
    rw [decide_eq_false (show ¬ Int32.ofNat L ≤ nn k by rw [nn_lit, nn_le (by omega) (by omega)]; exact z), cond_false]
    refine (d h (nn k) 991 399).trans ?_
    rw [nn_in (by omega), decide_eq_true (show k < L by omega), cond_true, nn_tn (by omega)]
set_option maxRecDepth 20000 in
theorem l_a (L : Nat) (xs : Nat → Int32) : ∀ f n : Nat, g_law L xs n (f + 5) 0 [(0, .inl (.retAddr 1))] [] [] (616043, 7247942) = am_ri (F_L_cell (am_rsL L xs) [.inl (.retAddr 1), .inl (.int 0)] hX1) (fun x h => g_law L xs n f 9 [(0, .inl (.retAddr 1))] [.inl (.int x), .inl (.ref 0), .inl (.ref 0)] h (616042, 7247934)) (fun x h => some (.inr x, h)) := fun f n => rfl
set_option maxRecDepth 20000 in
theorem l_b (L : Nat) (xs : Nat → Int32) (x : Int32) : ∀ f n : Nat, g_law L xs n (f + 3) 9 [(0, .inl (.retAddr 1))] [.inl (.int x), .inl (.ref 0), .inl (.ref 0)] hX1 (616042, 7247934) = am_ri (F_L_cell (am_rsL L xs) [.inl (.retAddr 1), .inl (.int 1)] hX1) (fun y h => g_law L xs n f 14 [(0, .inl (.retAddr 1))] [.inl (.int y), .inl (.int x), .inl (.ref 0), .inl (.ref 0)] h (616042, 7247934)) (fun x h => some (.inr x, h)) := fun f n => rfl
set_option maxRecDepth 20000 in
theorem l_c (L : Nat) (xs : Nat → Int32) (x y : Int32) : ∀ f n : Nat, g_law L xs n (f + 1) 14 [(0, .inl (.retAddr 1))] [.inl (.int y), .inl (.int x), .inl (.ref 0), .inl (.ref 0)] hX1 (616042, 7247934) = am_rv (am_nx F_X1_init [.inl (.ref 0), .inl (.int x), .inl (.int y)] hX1) (fun h => g_law L xs n f 17 [(0, .inl (.retAddr 1))] [.inl (.ref 0)] h (616022, 7244252)) (fun x h => some (.inr x, h)) := fun f n => rfl
set_option maxRecDepth 20000 in
theorem l_d (L : Nat) (xs : Nat → Int32) (nf ns : Nat) (s : KS) : ∀ f n : Nat, g_law L xs n (f + 6) 17 [(0, .inl (.retAddr 1))] [.inl (.ref 0)] (kH nf ns [] s) (616022, 7244252) = am_ri (F_L_cell (am_rsL L xs) [.inl (.retAddr 1), .inl (.int 0)] (kH nf ns [oX2] s)) (fun x h => g_law L xs n f 27 [(0, .inl (.retAddr 1)), (1, .inl (.ref 0))] [.inl (.int x), .inl (.ref 15), .inl (.ref 15)] h (616021, 7244232)) (fun x h => some (.inr x, h)) := fun f n => rfl
set_option maxRecDepth 20000 in
theorem l_e (L : Nat) (xs : Nat → Int32) (nf ns : Nat) (s : KS) (x : Int32) : ∀ f n : Nat, g_law L xs n (f + 3) 27 [(0, .inl (.retAddr 1)), (1, .inl (.ref 0))] [.inl (.int x), .inl (.ref 15), .inl (.ref 15)] (kH nf ns [oX2] s) (616021, 7244232) = am_ri (F_L_cell (am_rsL L xs) [.inl (.retAddr 1), .inl (.int 1)] (kH nf ns [oX2] s)) (fun y h => g_law L xs n f 32 [(0, .inl (.retAddr 1)), (1, .inl (.ref 0))] [.inl (.int y), .inl (.int x), .inl (.ref 15), .inl (.ref 15)] h (616021, 7244232)) (fun x h => some (.inr x, h)) := fun f n => rfl
set_option maxRecDepth 20000 in
theorem l_f (L : Nat) (xs : Nat → Int32) (nf ns : Nat) (s : KS) (x y : Int32) : ∀ f n : Nat, g_law L xs n (f + 1) 32 [(0, .inl (.retAddr 1)), (1, .inl (.ref 0))] [.inl (.int y), .inl (.int x), .inl (.ref 15), .inl (.ref 15)] (kH nf ns [oX2] s) (616021, 7244232) = am_rv (am_nx F_X2_init [.inl (.ref 15), .inl (.int x), .inl (.int y)] (kH nf ns [oX2] s)) (fun h => g_law L xs n f 35 [(0, .inl (.retAddr 1)), (1, .inl (.ref 0))] [.inl (.ref 15)] h (616008, 7240332)) (fun x h => some (.inr x, h)) := fun f n => rfl
set_option maxRecDepth 20000 in
theorem l_g (L : Nat) (xs : Nat → Int32) (nf ns : Nat) (s t : KS) : ∀ f n : Nat, g_law L xs n (f + 6) 35 [(0, .inl (.retAddr 1)), (1, .inl (.ref 0))] [.inl (.ref 15)] (hM nf ns [] s t) (616008, 7240332) = g_law L xs n f 43 [(0, .inl (.retAddr 1)), (1, .inl (.ref 0)), (2, .inl (.ref 15)), (3, .inl (.ref 29)), (4, .inl (.int 2))] [] (lH nf ns (fun _ => 0) s t) (616007, 7240331) := fun f n => rfl
theorem am_nx_v {F : List am_V → am_H → Option am_O} {as : List am_V} {h h' : am_H} (e : F as h = some (.inl none, h')) : am_nx F as h = some (.inl none, h') := by
  unfold am_nx
  rw [e]
theorem law_run (L : Nat) (xs : Nat → Int32) (hL : L ≤ 2050) : ∃ h', F_law L xs = some (.inl (some (.inl (.int 1))), h') := by
  obtain ⟨x, hx⟩ := cell_h (xs := xs) hL 0 (by omega)
  obtain ⟨y, hy⟩ := cell_h (xs := xs) hL 1 (by omega)
  obtain ⟨nf, n1, n2, n3⟩ := cl_fn x
  obtain ⟨ns, m1, m2⟩ := cl_sn y
  obtain ⟨s0, K, hK⟩ := init1_p n2 m1 n3 m2
  obtain ⟨t0, M, _⟩ := init2_p (s := s0) n3 m2
  obtain ⟨s, t1, p1, _, _⟩ := start_pair ⟨n1, n2, m1⟩ K M
  obtain ⟨t0, M, hM'⟩ := init2_p (s := s) n3 m2
  obtain ⟨s', t, p1', p2, R⟩ := start_pair ⟨n1, n2, m1⟩ K M
  have es : s' = s := (Prod.mk.inj (Option.some.inj (p1'.symm.trans p1))).2
  subst es
  have f1 := am_nx_v (hK _ p1)
  have f2 := am_nx_v (hM' _ p2)
  obtain ⟨h', IH⟩ := l_loop (xs := xs) hL 513 2 999 910 616007 7240331 (fun _ => 0) s' t (by omega) (by omega) (by omega) (by omega) (by omega) R
  refine ⟨h', ?_⟩
  refine (show F_law L xs = g_law L xs 999 1000 0 [(0, .inl (.retAddr 1))] [] [] (616043, 7247942) from j_law_g L xs 999 0 _ _ _ _).trans ?_
  refine (l_a L xs 995 999).trans ?_
  refine (am_ri_i (hx hX1)).trans ?_
  refine (l_b L xs x 992 999).trans ?_
  refine (am_ri_i (hy hX1)).trans ?_
  refine (l_c L xs x y 991 999).trans ?_
  refine (am_rv_v f1).trans ?_
  refine (l_d L xs nf ns s' 985 999).trans ?_
  refine (am_ri_i (hx _)).trans ?_
  refine (l_e L xs nf ns s' x 982 999).trans ?_
  refine (am_ri_i (hy _)).trans ?_
  refine (l_f L xs nf ns s' x y 981 999).trans ?_
  refine (am_rv_v f2).trans ?_
  refine (l_g L xs nf ns s' t 975 999).trans ?_
  exact IH
