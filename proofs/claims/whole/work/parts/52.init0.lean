theorem am_rv_v {o : Option am_O} {K : am_H → Option am_O} {KX : Nat → am_H → Option am_O} {h : am_H} (e : o = some (.inl none, h)) : am_rv o K KX = K h := by rw [e]; rfl
def z0 : KS := (fun _ _ => 0, fun _ _ => 0)
/-- the heap as a memory begins -/
def hX0 : am_H := .inr (.inr (.inl (1, [.inl .null, .inl (.ref 1), .inl (.ref 2), .inl (.ref 3), .inl (.ref 4), .inl (.ref 5), .inl (.ref 6), .inl (.ref 7)]))) :: .inl (0, 6, fun _ => 0) :: .inl (0, 6, fun _ => 0) :: .inl (0, 6, fun _ => 0) :: .inl (0, 6, fun _ => 0) :: .inl (0, 6, fun _ => 0) :: .inl (0, 6, fun _ => 0) :: .inr (.inl (6, 11, fun _ _ => 0)) :: [.inr (.inr (.inl (0, [.inl .null, .inl .null, .inl .null, .inl .null, .inl .null, .inl .null, .inl (.int 0), .inl (.int 0), .inl (.int 0), .inl (.int 0)])))]
set_option maxRecDepth 20000 in
def g_X0_init (n f pc : Nat) (lv : am_Lv) (st : List am_V) (h : am_H) (b : Nat × Nat) : Option am_O := am_go X_X0_init 5 none am_rs0 [] [(96, [0, 3]), (105, [0, 3, 4])] (am_lp T_X0_init X_X0_init 5 none am_rs0 [] [(96, [0, 3]), (105, [0, 3, 4])] n) f (am_from pc T_X0_init) lv st h b
set_option maxRecDepth 20000 in
def j_X0_init (n pc : Nat) (lv : am_Lv) (st : List am_V) (h : am_H) (b : Nat × Nat) : Option am_O := am_lp T_X0_init X_X0_init 5 none am_rs0 [] [(96, [0, 3]), (105, [0, 3, 4])] n pc lv st h b
set_option maxRecDepth 20000 in
theorem j_X0_init_g (n pc : Nat) (lv : am_Lv) (st : List am_V) (h : am_H) (b : Nat × Nat) : j_X0_init (n + 1) pc lv st h b = g_X0_init n 1000 pc lv st h b := rfl
set_option maxRecDepth 20000 in
theorem i0_a (a1 a2 : Int32) : ∀ f n : Nat, g_X0_init n (f + 42) 0 [(0, .inl (.ref 8)), (1, .inl (.int a1)), (2, .inl (.int a2))] [] hX0 (6, 1800) = cond (am_in a1 1000 && decide (a1.toNatClampNeg ≤ 1440)) (cond (am_in a1 1000 && decide (a1.toNatClampNeg ≤ 1440 - a1.toNatClampNeg)) (cond (am_in a2 1000 && decide (a2.toNatClampNeg ≤ 1440 - a1.toNatClampNeg - a1.toNatClampNeg)) (am_rv (F_J7_fill [.inl (.ref 12), .inl (.int (-1))] (kHm (.inl .null) a1.toNatClampNeg a2.toNatClampNeg [] z0)) (fun h => g_X0_init n f 78 [(0, .inl (.ref 8)), (1, .inl (.int a1)), (2, .inl (.int a2))] [] h (0, 1440 - a1.toNatClampNeg - a1.toNatClampNeg - a2.toNatClampNeg)) (fun x h => some (.inr x, h))) none) none) none := fun f n => rfl
set_option maxRecDepth 20000 in
theorem i0_b (a1 a2 : Int32) (nf ns : Nat) (s : KS) (b : Nat) : ∀ f n : Nat, g_X0_init n (f + 4) 78 [(0, .inl (.ref 8)), (1, .inl (.int a1)), (2, .inl (.int a2))] [] (kHm (.inl .null) nf ns [] s) (0, b) = am_rv (F_J7_fill [.inl (.ref 14), .inl (.int (-1))] (kHm (.inl .null) nf ns [] s)) (fun h => g_X0_init n f 86 [(0, .inl (.ref 8)), (1, .inl (.int a1)), (2, .inl (.int a2))] [] h (0, b)) (fun x h => some (.inr x, h)) := fun f n => rfl
set_option maxRecDepth 20000 in
theorem i0_c (a1 a2 : Int32) (nf ns : Nat) (s : KS) (b : Nat) : ∀ f n : Nat, g_X0_init n (f + 4) 86 [(0, .inl (.ref 8)), (1, .inl (.int a1)), (2, .inl (.int a2))] [] (kHm (.inl .null) nf ns [] s) (0, b) = am_rv (F_J7_fill [.inl (.ref 11), .inl (.int (-1))] (kHm (.inl .null) nf ns [] s)) (fun h => g_X0_init n f 94 [(0, .inl (.ref 8)), (1, .inl (.int a1)), (2, .inl (.int a2))] [] h (0, b)) (fun x h => some (.inr x, h)) := fun f n => rfl
set_option maxRecDepth 20000 in
theorem i0_d (nf ns : Nat) (s : KS) (b : Nat) (a1 a2 : Int32) : ∀ f n : Nat, g_X0_init n (f + 2) 94 [(0, .inl (.ref 8)), (1, .inl (.int a1)), (2, .inl (.int a2))] [] (kHm (.inl .null) nf ns [] s) (0, b) = g_X0_init n f 96 [(0, .inl (.ref 8)), (1, .inl (.int a1)), (2, .inl (.int a2)), (3, .inl (.int 0))] [] (kHm (.inl .null) nf ns [] s) (0, b) := fun f n => rfl
set_option maxRecDepth 20000 in
theorem i0_e (nf ns : Nat) (s : KS) (b : Nat) (a1 a2 p : Int32) : ∀ f n : Nat, g_X0_init n (f + 3) 96 [(0, .inl (.ref 8)), (1, .inl (.int a1)), (2, .inl (.int a2)), (3, .inl (.int p))] [] (kHm (.inl .null) nf ns [] s) (0, b) = cond (decide ((6 : Int32) ≤ p)) (g_X0_init n f 150 [(0, .inl (.ref 8)), (3, .inl (.int p))] [] (kHm (.inl .null) nf ns [] s) (0, b)) (g_X0_init n f 102 [(0, .inl (.ref 8)), (3, .inl (.int p))] [] (kHm (.inl .null) nf ns [] s) (0, b)) := fun f n => rfl
set_option maxRecDepth 20000 in
theorem i0_f (nf ns : Nat) (s : KS) (b : Nat) (p : Int32) : ∀ f n : Nat, g_X0_init n (f + 3) 96 [(0, .inl (.ref 8)), (3, .inl (.int p))] [] (kHm (.inl .null) nf ns [] s) (0, b) = cond (decide ((6 : Int32) ≤ p)) (g_X0_init n f 150 [(0, .inl (.ref 8)), (3, .inl (.int p))] [] (kHm (.inl .null) nf ns [] s) (0, b)) (g_X0_init n f 102 [(0, .inl (.ref 8)), (3, .inl (.int p))] [] (kHm (.inl .null) nf ns [] s) (0, b)) := fun f n => rfl
set_option maxRecDepth 20000 in
theorem i0_g (nf ns : Nat) (s : KS) (b : Nat) (p : Int32) : ∀ f n : Nat, g_X0_init n (f + 1) 150 [(0, .inl (.ref 8)), (3, .inl (.int p))] [] (kHm (.inl .null) nf ns [] s) (0, b) = some (.inl none, (kHm (.inl .null) nf ns [] s)) := fun f n => rfl
set_option maxRecDepth 20000 in
theorem i0_h (nf ns : Nat) (s : KS) (b : Nat) (p : Int32) : ∀ f n : Nat, g_X0_init n (f + 2) 102 [(0, .inl (.ref 8)), (3, .inl (.int p))] [] (kHm (.inl .null) nf ns [] s) (0, b) = g_X0_init n f 105 [(0, .inl (.ref 8)), (3, .inl (.int p)), (4, .inl (.int 0))] [] (kHm (.inl .null) nf ns [] s) (0, b) := fun f n => rfl
set_option maxRecDepth 20000 in
theorem i0_i (nf ns : Nat) (s : KS) (b : Nat) (p i : Int32) : ∀ f n : Nat, g_X0_init n (f + 3) 105 [(0, .inl (.ref 8)), (3, .inl (.int p)), (4, .inl (.int i))] [] (kHm (.inl .null) nf ns [] s) (0, b) = cond (decide ((4 : Int32) ≤ i)) (g_X0_init n f 144 [(0, .inl (.ref 8)), (3, .inl (.int p)), (4, .inl (.int i))] [] (kHm (.inl .null) nf ns [] s) (0, b)) (g_X0_init n f 111 [(0, .inl (.ref 8)), (3, .inl (.int p)), (4, .inl (.int i))] [] (kHm (.inl .null) nf ns [] s) (0, b)) := fun f n => rfl
set_option maxRecDepth 20000 in
theorem i0_j (nf ns : Nat) (s : KS) (b : Nat) (p i : Int32) : ∀ f n : Nat, g_X0_init n (f + 23) 111 [(0, .inl (.ref 8)), (3, .inl (.int p)), (4, .inl (.int i))] [] (kHm (.inl .null) nf ns [] s) (0, b) = cond (am_in (p * 4 + i) 240) (j_X0_init n 105 [(0, .inl (.ref 8)), (3, .inl (.int p)), (4, .inl (.int (i + 1)))] [] (kHm (.inl .null) nf ns [] (kS s 9 (p * 4 + i).toNatClampNeg (100 * (p / 2) + 10 * (p - p / 2 * 2) + i))) (0, b)) none := fun f n => rfl
set_option maxRecDepth 20000 in
theorem i0_k (nf ns : Nat) (s : KS) (b : Nat) (p i : Int32) : ∀ f n : Nat, g_X0_init n (f + 2) 144 [(0, .inl (.ref 8)), (3, .inl (.int p)), (4, .inl (.int i))] [] (kHm (.inl .null) nf ns [] s) (0, b) = j_X0_init n 96 [(0, .inl (.ref 8)), (3, .inl (.int (p + 1)))] [] (kHm (.inl .null) nf ns [] s) (0, b) := fun f n => rfl
theorem i0_in {nf ns b p : Nat} (hp : p < 6) : ∀ (k i n f : Nat) (s : KS), i + k = 4 → ∃ s', g_X0_init (k + n + 1) (f + 26) 105 [(0, .inl (.ref 8)), (3, .inl (.int (nn p))), (4, .inl (.int (nn i)))] [] (kHm (.inl .null) nf ns [] s) (0, b) = j_X0_init (n + 1) 96 [(0, .inl (.ref 8)), (3, .inl (.int (nn (p + 1))))] [] (kHm (.inl .null) nf ns [] s') (0, b) ∧ s'.2 = s.2 ∧ (∀ c, c ≠ 9 → s'.1 c = s.1 c) ∧ (∀ j, s'.1 9 j = if p * 4 + i ≤ j ∧ j < p * 4 + 4 then nn (100 * (p / 2) + 10 * (p % 2) + (j - p * 4)) else s.1 9 j)
  | 0, i, n, f, s, h1 => by
    refine ⟨s, ?_, rfl, fun _ _ => rfl, fun j => by rw [if_neg (by omega)]⟩
    rw [show 0 + n + 1 = n + 1 by omega, show f + 26 = (f + 23) + 3 by omega]
    refine (i0_i nf ns s b (nn p) (nn i) (f + 23) (n + 1)).trans ?_
    rw [show decide ((4 : Int32) ≤ nn i) = true from decide_eq_true (by rw [nn_4g (by omega)]; omega), cond_true]
    rw [show f + 23 = (f + 21) + 2 by omega]
    refine (i0_k nf ns s b (nn p) (nn i) (f + 21) (n + 1)).trans ?_
    rw [nn_p1]
  | k + 1, i, n, f, s, h1 => by
    obtain ⟨s', a1, a2, a3, a4⟩ := i0_in (nf := nf) (ns := ns) (b := b) hp k (i + 1) n 974 (kS s 9 (p * 4 + i) (nn (100 * (p / 2) + 10 * (p % 2) + i))) (by omega)
    refine ⟨s', ?_, a2, fun c hc => by rw [a3 c hc, kS_1, if_neg hc], fun j => ?_⟩
    · rw [show f + 26 = (f + 23) + 3 by omega]
      refine (i0_i nf ns s b (nn p) (nn i) (f + 23) (k + 1 + n + 1)).trans ?_
      rw [show decide ((4 : Int32) ≤ nn i) = false from decide_eq_false (by rw [nn_4g (by omega)]; omega), cond_false]
      rw [show f + 23 = (f + 0) + 23 by omega]
      refine (i0_j nf ns s b (nn p) (nn i) (f + 0) (k + 1 + n + 1)).trans ?_
      rw [nn_4m, nn_add, nn_in (by omega), decide_eq_true (show p * 4 + i < 240 by omega), cond_true, nn_tn (by omega), nn_d2 (by omega), nn_r2 (by omega), nn_100m, nn_10m, nn_add, nn_add, nn_p1, show k + 1 + n + 1 = (k + n + 1) + 1 by omega]
      exact (j_X0_init_g (k + n + 1) 105 _ _ _ _).trans a1
    · rw [a4]
      by_cases z : j = p * 4 + i
      · subst z
        rw [if_neg (by omega), if_pos (by omega)]
        show upd (s.1 9) (p * 4 + i) _ (p * 4 + i) = _
        rw [upd_a, show p * 4 + i - p * 4 = i by omega]
      · by_cases z2 : p * 4 + (i + 1) ≤ j ∧ j < p * 4 + 4
        · rw [if_pos z2, if_pos (by omega)]
        · rw [if_neg z2, if_neg (by omega)]
          exact upd_n z
theorem i0_out {nf ns b : Nat} : ∀ (k p n f : Nat) (s : KS), p + k = 6 → ∃ s', g_X0_init (5 * k + n) (f + 31) 96 [(0, .inl (.ref 8)), (3, .inl (.int (nn p)))] [] (kHm (.inl .null) nf ns [] s) (0, b) = some (.inl none, kHm (.inl .null) nf ns [] s') ∧ s'.2 = s.2 ∧ (∀ c, c ≠ 9 → s'.1 c = s.1 c) ∧ (∀ j, s'.1 9 j = if p * 4 ≤ j ∧ j < 24 then nn (100 * (j / 4 / 2) + 10 * (j / 4 % 2) + j % 4) else s.1 9 j)
  | 0, p, n, f, s, h1 => by
    refine ⟨s, ?_, rfl, fun _ _ => rfl, fun j => by rw [if_neg (by omega)]⟩
    rw [show f + 31 = (f + 28) + 3 by omega]
    refine (i0_f nf ns s b (nn p) (f + 28) (5 * 0 + n)).trans ?_
    rw [show decide ((6 : Int32) ≤ nn p) = true from decide_eq_true (by rw [nn_6g (by omega)]; omega), cond_true, show f + 28 = (f + 27) + 1 by omega]
    exact i0_g nf ns s b (nn p) (f + 27) (5 * 0 + n)
  | k + 1, p, n, f, s, h1 => by
    obtain ⟨s1, a1, a2, a3, a4⟩ := i0_in (nf := nf) (ns := ns) (b := b) (show p < 6 by omega) 4 0 (5 * k + n) f s (by omega)
    obtain ⟨s', b1, b2, b3, b4⟩ := i0_out (nf := nf) (ns := ns) (b := b) k (p + 1) n 969 s1 (by omega)
    refine ⟨s', ?_, b2.trans a2, fun c hc => (b3 c hc).trans (a3 c hc), fun j => ?_⟩
    · rw [show f + 31 = (f + 28) + 3 by omega]
      refine (i0_f nf ns s b (nn p) (f + 28) (5 * (k + 1) + n)).trans ?_
      rw [show decide ((6 : Int32) ≤ nn p) = false from decide_eq_false (by rw [nn_6g (by omega)]; omega), cond_false, show f + 28 = (f + 26) + 2 by omega]
      refine (i0_h nf ns s b (nn p) (f + 26) (5 * (k + 1) + n)).trans ?_
      rw [show 5 * (k + 1) + n = 4 + (5 * k + n) + 1 by omega]
      refine a1.trans ?_
      exact (j_X0_init_g (5 * k + n) 96 _ _ _ _).trans b1
    · rw [b4, a4]
      by_cases z : p * 4 ≤ j ∧ j < p * 4 + 4
      · rw [if_neg (by omega), if_pos (by omega), if_pos (by omega)]
        congr 1
        omega
      · by_cases z2 : (p + 1) * 4 ≤ j ∧ j < 24
        · rw [if_pos z2, if_pos (by omega)]
        · rw [if_neg z2, if_neg (by omega), if_neg (by omega)]
/-- what a new memory is -/
def MS (nf ns : Nat) (s : KS) : Prop :=
  (∀ c, c ≠ 9 → c ≠ 11 → c ≠ 12 → c ≠ 14 → s.1 c = fun _ => 0) ∧ s.2 = (fun _ _ => 0) ∧ (∀ j, j < 60 → s.1 11 j = -1) ∧ (∀ j, j < nf → s.1 12 j = -1) ∧ (∀ j, j < ns → s.1 14 j = -1) ∧ (∀ P i, P < 6 → i < 4 → s.1 9 (P * 4 + i) = nn (100 * (P / 2) + 10 * (P % 2) + i))
theorem init0_p {nf ns : Nat} (hn : nf ≤ 10) (hm : ns ≤ 20) : ∃ s, F_X0_init [.inl (.ref 8), .inl (.int (nn nf)), .inl (.int (nn ns))] hX0 = some (.inl none, kHm (.inl .null) nf ns [] s) ∧ MS nf ns s := by
  let sA := kV12 z0 (fS32 (z0.1 12) 0 nf (-1))
  let sB := kV14 sA (fS32 (sA.1 14) 0 ns (-1))
  let sC := kV11 sB (fS32 (sB.1 11) 0 60 (-1))
  obtain ⟨s', b1, b2, b3, b4⟩ := i0_out (nf := nf) (ns := ns) (b := 1440 - nf - nf - ns) 6 0 369 917 sC (by omega)
  refine ⟨s', ?_, ?_⟩
  · refine (show _ = g_X0_init 399 1000 0 [(0, .inl (.ref 8)), (1, .inl (.int (nn nf))), (2, .inl (.int (nn ns)))] [] hX0 (6, 1800) from am_fn_g (T := T_X0_init) (X := X_X0_init) (nL := 5) (rt := none) (rs := am_rs0) (hs := []) (kp := [(96, [0, 3]), (105, [0, 3, 4])]) (n := 399) (b := (6, 1800)) (as := [.inl (.ref 8), .inl (.int (nn nf)), .inl (.int (nn ns))]) (h := hX0) (Nat.le_of_ble_eq_true rfl)).trans ?_
    refine (i0_a (nn nf) (nn ns) 958 399).trans ?_
    simp (disch := omega) only [nn_in, nn_tn, (eq_true (by omega) : (nf < 1000) = True), (eq_true (by omega) : (ns < 1000) = True), (eq_true (by omega) : (nf ≤ 1440) = True), (eq_true (by omega) : (nf ≤ 1440 - nf) = True), (eq_true (by omega) : (ns ≤ 1440 - nf - nf) = True), decide_true, Bool.and_self, cond_true]
    refine (am_rv_v (fill_12 (by omega))).trans ?_
    refine (i0_b (nn nf) (nn ns) nf ns _ _ 954 399).trans ?_
    refine (am_rv_v (fill_14 (by omega))).trans ?_
    refine (i0_c (nn nf) (nn ns) nf ns _ _ 950 399).trans ?_
    refine (am_rv_v fill_11).trans ?_
    refine (i0_d nf ns _ _ (nn nf) (nn ns) 948 399).trans ?_
    refine (i0_e nf ns _ _ (nn nf) (nn ns) 0 945 399).trans ?_
    exact (i0_f nf ns _ _ 0 945 399).symm.trans b1
  · have e11 : s'.1 11 = fS32 (sB.1 11) 0 60 (-1) := b3 11 (by omega)
    have e12 : s'.1 12 = fS32 (z0.1 12) 0 nf (-1) := b3 12 (by omega)
    have e14 : s'.1 14 = fS32 (sA.1 14) 0 ns (-1) := b3 14 (by omega)
    refine ⟨fun c h1 h2 h3 h4 => ?_, b2, fun j hj => ?_, fun j hj => ?_, fun j hj => ?_, fun P i hP hi => ?_⟩
    · rw [b3 c h1]
      show (if c = 11 then _ else if c = 14 then _ else if c = 12 then _ else z0.1 c) = _
      rw [if_neg h2, if_neg h4, if_neg h3]; rfl
    · rw [e11]; exact if_pos (by omega)
    · rw [e12]; exact if_pos (by omega)
    · rw [e14]; exact if_pos (by omega)
    · rw [b4, if_pos (by omega), show (P * 4 + i) / 4 = P by omega, show (P * 4 + i) % 4 = i by omega]
