def cl (a0 a1 a2 : Int32) : Int32 := if a1 < (if a0 < a2 then a0 else a2) then (if a0 < a2 then a0 else a2) else a1
set_option maxRecDepth 20000 in
theorem clamp_h (a0 a1 a2 : Int32) (h : am_H) : F_X1_clamp [.inl (.int a0), .inl (.int a1), .inl (.int a2)] h = some (.inl (some (.inl (.int (cl a0 a1 a2)))), h) := by
  refine (show _ = g_X1_clamp 399 1000 0 [(0, .inl (.int a0)), (1, .inl (.int a1)), (2, .inl (.int a2))] [] h (0, 0) from am_fn_g (as := [.inl (.int a0), .inl (.int a1), .inl (.int a2)]) (h := h) (Nat.le_of_ble_eq_true rfl)).trans ?_
  exact (show ∀ f n : Nat, g_X1_clamp n (f + 6) 0 [(0, .inl (.int a0)), (1, .inl (.int a1)), (2, .inl (.int a2))] [] h (0, 0) = some (.inl (some (.inl (.int (cl a0 a1 a2)))), h) from fun f n => rfl) 994 399
theorem cl_f (x : Int32) : cl x 2 10 = if 2 ≤ x then (if x ≤ 10 then x else 10) else 2 := by
  unfold cl
  by_cases h : x < 10
  · rw [if_pos h]
    by_cases h2 : 2 ≤ x
    · rw [if_pos h2, if_pos (Int32.le_of_lt h)]
      by_cases h3 : 2 < x
      · rw [if_pos h3]
      · rw [if_neg h3]; exact Int32.le_antisymm h2 (Int32.not_lt.mp h3)
    · rw [if_neg h2, if_neg (fun z => h2 (Int32.le_of_lt z))]
  · rw [if_neg h]
    have h10 : 10 ≤ x := Int32.not_lt.mp h
    rw [if_pos (by decide), if_pos (Int32.le_trans (by decide) h10)]
    by_cases h3 : x ≤ 10
    · rw [if_pos h3]; exact Int32.le_antisymm h10 h3
    · rw [if_neg h3]
theorem cl_s (x : Int32) : cl x 0 20 = if 0 ≤ x then (if x ≤ 20 then x else 20) else 0 := by
  unfold cl
  by_cases h : x < 20
  · rw [if_pos h]
    by_cases h2 : 0 ≤ x
    · rw [if_pos h2, if_pos (Int32.le_of_lt h)]
      by_cases h3 : 0 < x
      · rw [if_pos h3]
      · rw [if_neg h3]; exact Int32.le_antisymm h2 (Int32.not_lt.mp h3)
    · rw [if_neg h2, if_neg (fun z => h2 (Int32.le_of_lt z))]
  · rw [if_neg h]
    have h10 : 20 ≤ x := Int32.not_lt.mp h
    rw [if_pos (by decide), if_pos (Int32.le_trans (by decide) h10)]
    by_cases h3 : x ≤ 20
    · rw [if_pos h3]; exact Int32.le_antisymm h10 h3
    · rw [if_neg h3]
theorem cl_fn (x : Int32) : ∃ nf, 2 ≤ nf ∧ nf ≤ 10 ∧ cl x 2 10 = nn nf := by
  rw [cl_f]
  by_cases h : 2 ≤ x
  · rw [if_pos h]
    by_cases h2 : x ≤ 10
    · rw [if_pos h2]
      obtain ⟨a, b⟩ := nn_of (Int32.le_trans (by decide : (0 : Int32) ≤ 2) h)
      refine ⟨x.toNatClampNeg, ?_, ?_, a⟩
      · rw [a] at h
        have h : nn 2 ≤ nn x.toNatClampNeg := h
        rwa [nn_le (by omega) b] at h
      · rw [a] at h2
        have h2 : nn x.toNatClampNeg ≤ nn 10 := h2
        rwa [nn_le b (by omega)] at h2
    · rw [if_neg h2]; exact ⟨10, by omega, by omega, rfl⟩
  · rw [if_neg h]; exact ⟨2, by omega, by omega, rfl⟩
theorem cl_sn (x : Int32) : ∃ ns, ns ≤ 20 ∧ cl x 0 20 = nn ns := by
  rw [cl_s]
  by_cases h : 0 ≤ x
  · rw [if_pos h]
    by_cases h2 : x ≤ 20
    · rw [if_pos h2]
      obtain ⟨a, b⟩ := nn_of h
      refine ⟨x.toNatClampNeg, ?_, a⟩
      rw [a] at h2
      have h2 : nn x.toNatClampNeg ≤ nn 20 := h2
      rwa [nn_le b (by omega)] at h2
    · rw [if_neg h2]; exact ⟨20, by omega, rfl⟩
  · rw [if_neg h]; exact ⟨0, by omega, rfl⟩
def hX1 : am_H := [.inr (.inr (.inl (1, [.inl .null, .inl .null, .inl .null, .inl .null, .inl .null, .inl .null, .inl .null, .inl .null])))]
set_option maxRecDepth 20000 in
def g_X1_init (n f pc : Nat) (lv : am_Lv) (st : List am_V) (h : am_H) (b : Nat × Nat) : Option am_O := am_go X_X1_init 4 none am_rs0 [] [(99, [0, 3])] (am_lp T_X1_init X_X1_init 4 none am_rs0 [] [(99, [0, 3])] n) f (am_from pc T_X1_init) lv st h b
set_option maxRecDepth 20000 in
def j_X1_init (n pc : Nat) (lv : am_Lv) (st : List am_V) (h : am_H) (b : Nat × Nat) : Option am_O := am_lp T_X1_init X_X1_init 4 none am_rs0 [] [(99, [0, 3])] n pc lv st h b
set_option maxRecDepth 20000 in
theorem j_X1_init_g (n pc : Nat) (lv : am_Lv) (st : List am_V) (h : am_H) (b : Nat × Nat) : j_X1_init (n + 1) pc lv st h b = g_X1_init n 1000 pc lv st h b := rfl
set_option maxRecDepth 20000 in
theorem i1_a (a1 a2 : Int32) : ∀ f n : Nat, g_X1_init n (f + 38) 0 [(0, .inl (.ref 0)), (1, .inl (.int a1)), (2, .inl (.int a2))] [] hX1 (20, 3682) = am_ri (F_X1_clamp [.inl (.int a1), .inl (.int 2), .inl (.int 10)] hX0) (fun x h => g_X1_init n f 76 [(0, .inl (.ref 0)), (1, .inl (.int a1)), (2, .inl (.int a2))] [.inl (.int x), .inl (.ref 8), .inl (.ref 8), .inl (.ref 0)] h (6, 3564)) (fun x h => some (.inr x, h)) := fun f n => rfl
set_option maxRecDepth 20000 in
theorem i1_b (a1 a2 x : Int32) : ∀ f n : Nat, g_X1_init n (f + 4) 76 [(0, .inl (.ref 0)), (1, .inl (.int a1)), (2, .inl (.int a2))] [.inl (.int x), .inl (.ref 8), .inl (.ref 8), .inl (.ref 0)] hX0 (6, 3564) = am_ri (F_X1_clamp [.inl (.int a2), .inl (.int 0), .inl (.int 20)] hX0) (fun y h => g_X1_init n f 83 [(0, .inl (.ref 0)), (1, .inl (.int a1)), (2, .inl (.int a2))] [.inl (.int y), .inl (.int x), .inl (.ref 8), .inl (.ref 8), .inl (.ref 0)] h (6, 3564)) (fun x h => some (.inr x, h)) := fun f n => rfl
set_option maxRecDepth 20000 in
theorem i1_c (a1 a2 x y : Int32) : ∀ f n : Nat, g_X1_init n (f + 1) 83 [(0, .inl (.ref 0)), (1, .inl (.int a1)), (2, .inl (.int a2))] [.inl (.int y), .inl (.int x), .inl (.ref 8), .inl (.ref 8), .inl (.ref 0)] hX0 (6, 3564) = am_rv (am_nx F_X0_init [.inl (.ref 8), .inl (.int x), .inl (.int y)] hX0) (fun h => g_X1_init n f 86 [(0, .inl (.ref 0)), (1, .inl (.int a1)), (2, .inl (.int a2))] [.inl (.ref 8), .inl (.ref 0)] h (0, 1764)) (fun x h => some (.inr x, h)) := fun f n => rfl
set_option maxRecDepth 20000 in
theorem i1_d (a1 a2 : Int32) (nf ns : Nat) (s : KS) : ∀ f n : Nat, g_X1_init n (f + 5) 86 [(0, .inl (.ref 0)), (1, .inl (.int a1)), (2, .inl (.int a2))] [.inl (.ref 8), .inl (.ref 0)] (kHm (.inl .null) nf ns [] s) (0, 1764) = am_rv (F_J7_fill [.inl (.ref 3), .inl (.int (-1))] (kHm (.inl (.ref 8)) nf ns [] s)) (fun h => g_X1_init n f 97 [(0, .inl (.ref 0)), (1, .inl (.int a1)), (2, .inl (.int a2))] [] h (0, 1764)) (fun x h => some (.inr x, h)) := fun f n => rfl
set_option maxRecDepth 20000 in
theorem i1_e (a1 a2 : Int32) (nf ns : Nat) (s : KS) : ∀ f n : Nat, g_X1_init n (f + 2) 97 [(0, .inl (.ref 0)), (1, .inl (.int a1)), (2, .inl (.int a2))] [] (kHm (.inl (.ref 8)) nf ns [] s) (0, 1764) = g_X1_init n f 99 [(0, .inl (.ref 0)), (1, .inl (.int a1)), (2, .inl (.int a2)), (3, .inl (.int 0))] [] (kHm (.inl (.ref 8)) nf ns [] s) (0, 1764) := fun f n => rfl
set_option maxRecDepth 20000 in
theorem i1_f0 (a1 a2 p : Int32) (nf ns : Nat) (s : KS) : ∀ f n : Nat, g_X1_init n (f + 3) 99 [(0, .inl (.ref 0)), (1, .inl (.int a1)), (2, .inl (.int a2)), (3, .inl (.int p))] [] (kHm (.inl (.ref 8)) nf ns [] s) (0, 1764) = cond (decide ((6 : Int32) ≤ p)) (g_X1_init n f 121 [(0, .inl (.ref 0)), (3, .inl (.int p))] [] (kHm (.inl (.ref 8)) nf ns [] s) (0, 1764)) (g_X1_init n f 105 [(0, .inl (.ref 0)), (3, .inl (.int p))] [] (kHm (.inl (.ref 8)) nf ns [] s) (0, 1764)) := fun f n => rfl
set_option maxRecDepth 20000 in
theorem i1_f (p : Int32) (nf ns : Nat) (s : KS) : ∀ f n : Nat, g_X1_init n (f + 3) 99 [(0, .inl (.ref 0)), (3, .inl (.int p))] [] (kHm (.inl (.ref 8)) nf ns [] s) (0, 1764) = cond (decide ((6 : Int32) ≤ p)) (g_X1_init n f 121 [(0, .inl (.ref 0)), (3, .inl (.int p))] [] (kHm (.inl (.ref 8)) nf ns [] s) (0, 1764)) (g_X1_init n f 105 [(0, .inl (.ref 0)), (3, .inl (.int p))] [] (kHm (.inl (.ref 8)) nf ns [] s) (0, 1764)) := fun f n => rfl
set_option maxRecDepth 20000 in
theorem i1_g (p : Int32) (nf ns : Nat) (s : KS) : ∀ f n : Nat, g_X1_init n (f + 6) 105 [(0, .inl (.ref 0)), (3, .inl (.int p))] [] (kHm (.inl (.ref 8)) nf ns [] s) (0, 1764) = cond (am_in p 6) (am_rv (F_J7_fill [.inr (7, p.toNatClampNeg), .inl (.int (-1))] (kHm (.inl (.ref 8)) nf ns [] s)) (fun h => g_X1_init n f 115 [(0, .inl (.ref 0)), (3, .inl (.int p))] [] h (0, 1764)) (fun x h => some (.inr x, h))) none := fun f n => rfl
set_option maxRecDepth 20000 in
theorem i1_h (p : Int32) (nf ns : Nat) (s : KS) : ∀ f n : Nat, g_X1_init n (f + 2) 115 [(0, .inl (.ref 0)), (3, .inl (.int p))] [] (kHm (.inl (.ref 8)) nf ns [] s) (0, 1764) = j_X1_init n 99 [(0, .inl (.ref 0)), (3, .inl (.int (p + 1)))] [] (kHm (.inl (.ref 8)) nf ns [] s) (0, 1764) := fun f n => rfl
set_option maxRecDepth 20000 in
theorem i1_i (p : Int32) (nf ns : Nat) (s : KS) : ∀ f n : Nat, g_X1_init n (f + 9) 121 [(0, .inl (.ref 0)), (3, .inl (.int p))] [] (kHm (.inl (.ref 8)) nf ns [] s) (0, 1764) = am_rv (F_X1_startProgram [.inl (.ref 0), .inl (.int 0), .inl (.int 0)] (kH nf ns [] (kS s 1 0 1))) (fun h => g_X1_init n f 134 [(0, .inl (.ref 0)), (3, .inl (.int p))] [] h (0, 1764)) (fun x h => some (.inr x, h)) := fun f n => rfl
set_option maxRecDepth 20000 in
theorem i1_j (p : Int32) (nf ns : Nat) (s : KS) : ∀ f n : Nat, g_X1_init n (f + 1) 134 [(0, .inl (.ref 0)), (3, .inl (.int p))] [] (kH nf ns [] s) (0, 1764) = some (.inl none, kH nf ns [] s) := fun f n => rfl
theorem i1_rows {nf ns : Nat} : ∀ (k p n f : Nat) (s : KS), p + k = 6 → ∃ s' f', g_X1_init (k + n) (f + 20) 99 [(0, .inl (.ref 0)), (3, .inl (.int (nn p)))] [] (kHm (.inl (.ref 8)) nf ns [] s) (0, 1764) = g_X1_init n (f' + 10) 121 [(0, .inl (.ref 0)), (3, .inl (.int (nn 6)))] [] (kHm (.inl (.ref 8)) nf ns [] s') (0, 1764) ∧ s'.1 = s.1 ∧ (∀ q j, q < 6 → j < 11 → s'.2 q j = if p ≤ q then -1 else s.2 q j)
  | 0, p, n, f, s, h1 => by
    refine ⟨s, f + 7, ?_, rfl, fun q j _ _ => by rw [if_neg (by omega)]⟩
    rw [show 0 + n = n by omega, show f + 20 = (f + 17) + 3 by omega]
    refine (i1_f (nn p) nf ns s (f + 17) n).trans ?_
    rw [show decide ((6 : Int32) ≤ nn p) = true from decide_eq_true (by rw [nn_6g (by omega)]; omega), cond_true, show p = 6 by omega]
  | k + 1, p, n, f, s, h1 => by
    obtain ⟨s', f', a1, a2, a3⟩ := i1_rows (nf := nf) (ns := ns) k (p + 1) n 980 (kR s p 0 11 (-1)) (by omega)
    refine ⟨s', f', ?_, a2, fun q j hq hj => ?_⟩
    · rw [show f + 20 = (f + 17) + 3 by omega]
      refine (i1_f (nn p) nf ns s (f + 17) (k + 1 + n)).trans ?_
      rw [show decide ((6 : Int32) ≤ nn p) = false from decide_eq_false (by rw [nn_6g (by omega)]; omega), cond_false, show f + 17 = (f + 11) + 6 by omega]
      refine (i1_g (nn p) nf ns s (f + 11) (k + 1 + n)).trans ?_
      rw [nn_in (by omega), decide_eq_true (show p < 6 by omega), cond_true, nn_tn (by omega)]
      refine (am_rv_v (fill_r (show p < 6 by omega))).trans ?_
      rw [show f + 11 = (f + 9) + 2 by omega]
      refine (i1_h (nn p) nf ns _ (f + 9) (k + 1 + n)).trans ?_
      rw [nn_p1, show k + 1 + n = (k + n) + 1 by omega]
      exact (j_X1_init_g (k + n) 99 _ _ _ _).trans a1
    · rw [a3 q j hq hj]
      by_cases z : q = p
      · subst z
        rw [if_neg (by omega), if_pos (by omega)]
        show (if q = q then fS32 (s.2 q) 0 11 (-1) else s.2 q) j = -1
        rw [if_pos rfl]
        exact if_pos (by omega)
      · by_cases z2 : p + 1 ≤ q
        · rw [if_pos z2, if_pos (by omega)]
        · rw [if_neg z2, if_neg (by omega)]
          show (if q = p then fS32 (s.2 p) 0 11 (-1) else s.2 q) j = s.2 q j
          rw [if_neg z]
/-- a new kernel, before its first program -/
def KB (nf ns : Nat) (s : KS) : Prop :=
  s.1 1 = upd (fun _ => 0) 0 1 ∧ (∀ j, j < 6 → s.1 3 j = -1) ∧ s.1 8 = (fun _ => 0) ∧ s.1 10 = (fun _ => 0) ∧ s.1 13 = (fun _ => 0) ∧ (∀ q j, q < 6 → j < 11 → s.2 q j = -1) ∧ (∀ j, j < 60 → s.1 11 j = -1) ∧ (∀ j, j < nf → s.1 12 j = -1) ∧ (∀ j, j < ns → s.1 14 j = -1) ∧ (∀ P i, P < 6 → i < 4 → s.1 9 (P * 4 + i) = nn (100 * (P / 2) + 10 * (P % 2) + i))
theorem init1_p {nf ns : Nat} {a1 a2 : Int32} (hn : nf ≤ 10) (hm : ns ≤ 20) (e1 : cl a1 2 10 = nn nf) (e2 : cl a2 0 20 = nn ns) : ∃ s, KB nf ns s ∧ ∀ s', p_X1_startProgram nf ns (nn 0) (nn 0) s = some (.inl none, s') → F_X1_init [.inl (.ref 0), .inl (.int a1), .inl (.int a2)] hX1 = some (.inl none, kH nf ns [] s') := by
  obtain ⟨s0, h0, m1, m2, m3, m4, m5, m6⟩ := init0_p hn hm
  have h0' : am_nx F_X0_init [.inl (.ref 8), .inl (.int (nn nf)), .inl (.int (nn ns))] hX0 = some (.inl none, kHm (.inl .null) nf ns [] s0) := by
    unfold am_nx
    rw [h0]
  obtain ⟨sR, f', r1, r2, r3⟩ := i1_rows (nf := nf) (ns := ns) 6 0 393 930 (kV3 s0 (fS32 (s0.1 3) 0 6 (-1))) (by omega)
  refine ⟨kS sR 1 0 1, ⟨?_, ?_, ?_, ?_, ?_, ?_, ?_, ?_, ?_, ?_⟩, fun s' hs => ?_⟩
  · show upd (sR.1 1) 0 1 = _
    rw [r2]
    show upd (s0.1 1) 0 1 = _
    rw [m1 1 (by omega) (by omega) (by omega) (by omega)]
  · intro j hj
    show sR.1 3 j = -1
    rw [r2]
    exact if_pos (by omega)
  · show sR.1 8 = _
    rw [r2]; exact m1 8 (by omega) (by omega) (by omega) (by omega)
  · show sR.1 10 = _
    rw [r2]; exact m1 10 (by omega) (by omega) (by omega) (by omega)
  · show sR.1 13 = _
    rw [r2]; exact m1 13 (by omega) (by omega) (by omega) (by omega)
  · intro q j hq hj
    show sR.2 q j = -1
    rw [r3 q j hq hj, if_pos (by omega)]
  · intro j hj
    show sR.1 11 j = -1
    rw [r2]; exact m3 j hj
  · intro j hj
    show sR.1 12 j = -1
    rw [r2]; exact m4 j hj
  · intro j hj
    show sR.1 14 j = -1
    rw [r2]; exact m5 j hj
  · intro P i hP hi
    show sR.1 9 (P * 4 + i) = _
    rw [r2]; exact m6 P i hP hi
  · refine (show _ = g_X1_init 399 1000 0 [(0, .inl (.ref 0)), (1, .inl (.int a1)), (2, .inl (.int a2))] [] hX1 (20, 3682) from am_fn_g (T := T_X1_init) (X := X_X1_init) (nL := 4) (rt := none) (rs := am_rs0) (hs := []) (kp := [(99, [0, 3])]) (n := 399) (b := (20, 3682)) (as := [.inl (.ref 0), .inl (.int a1), .inl (.int a2)]) (h := hX1) (Nat.le_of_ble_eq_true rfl)).trans ?_
    refine (i1_a a1 a2 962 399).trans ?_
    refine (am_ri_i (clamp_h a1 2 10 hX0)).trans ?_
    refine (i1_b a1 a2 (cl a1 2 10) 958 399).trans ?_
    refine (am_ri_i (clamp_h a2 0 20 hX0)).trans ?_
    rw [e1, e2]
    refine (i1_c a1 a2 (nn nf) (nn ns) 957 399).trans ?_
    refine (am_rv_v h0').trans ?_
    refine (i1_d a1 a2 nf ns s0 952 399).trans ?_
    refine (am_rv_v fill_3).trans ?_
    refine (i1_e a1 a2 nf ns _ 950 399).trans ?_
    refine (i1_f0 a1 a2 0 nf ns _ 947 399).trans ?_
    refine (i1_f 0 nf ns _ 947 399).symm.trans ?_
    refine (show _ = _ from r1).trans ?_
    rw [show f' + 10 = (f' + 1) + 9 by omega]
    refine (i1_i (nn 6) nf ns sR (f' + 1) 393).trans ?_
    refine (am_rv_v ((e_X1_startProgram 0 0 (kS sR 1 0 1)).trans (congrArg (am_lf _) hs))).trans ?_
    exact i1_j (nn 6) nf ns s' f' 393
