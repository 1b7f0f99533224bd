/-! small numbers as ints -/
def nn (n : Nat) : Int32 := Int32.ofNat n
theorem nn_lit (n : Nat) : Int32.ofNat n = nn n := rfl
theorem nn_0 : (0 : Int32) = nn 0 := rfl
theorem nn_1 : (1 : Int32) = nn 1 := rfl
theorem nn_2 : (2 : Int32) = nn 2 := rfl
theorem nn_3 : (3 : Int32) = nn 3 := rfl
theorem nn_4 : (4 : Int32) = nn 4 := rfl
theorem nn_5 : (5 : Int32) = nn 5 := rfl
theorem nn_6 : (6 : Int32) = nn 6 := rfl
theorem nn_8 : (8 : Int32) = nn 8 := rfl
theorem nn_9 : (9 : Int32) = nn 9 := rfl
theorem nn_10 : (10 : Int32) = nn 10 := rfl
theorem nn_11 : (11 : Int32) = nn 11 := rfl
theorem nn_20 : (20 : Int32) = nn 20 := rfl
theorem nn_32 : (32 : Int32) = nn 32 := rfl
theorem nn_54 : (54 : Int32) = nn 54 := rfl
theorem nn_59 : (59 : Int32) = nn 59 := rfl
theorem nn_64 : (64 : Int32) = nn 64 := rfl
theorem nn_70 : (70 : Int32) = nn 70 := rfl
theorem nn_100 : (100 : Int32) = nn 100 := rfl
theorem nn_256 : (256 : Int32) = nn 256 := rfl
theorem nn_toInt {n : Nat} (h : n < 2147483648) : (nn n).toInt = n := Int32.toInt_ofNat_of_lt h
theorem nn_tn {n : Nat} (h : n < 2147483648) : (nn n).toNatClampNeg = n := by
  have h1 := nn_toInt h
  unfold Int32.toNatClampNeg
  omega
theorem nn_lt {a b : Nat} (ha : a < 2147483648) (hb : b < 2147483648) : (nn a < nn b) = (a < b) := by
  rw [Int32.lt_iff_toInt_lt, nn_toInt ha, nn_toInt hb]; exact propext (by omega)
theorem nn_le {a b : Nat} (ha : a < 2147483648) (hb : b < 2147483648) : (nn a ≤ nn b) = (a ≤ b) := by
  rw [Int32.le_iff_toInt_le, nn_toInt ha, nn_toInt hb]; exact propext (by omega)
theorem nn_eq {a b : Nat} (ha : a < 2147483648) (hb : b < 2147483648) : (nn a = nn b) = (a = b) := by
  rw [← Int32.toInt_inj, nn_toInt ha, nn_toInt hb]; exact propext (by omega)
theorem nn_inj {a b : Nat} (ha : a < 2147483648) (hb : b < 2147483648) (h : nn a = nn b) : a = b := by rwa [nn_eq ha hb] at h
theorem nn_m1i : (-1 : Int32).toInt = -1 := by decide
theorem nn_m1 {a : Nat} (ha : a < 2147483648) : (nn a = -1) = False := by
  rw [← Int32.toInt_inj, nn_toInt ha, nn_m1i]; exact eq_false (by omega)
theorem nn_m1' {a : Nat} (ha : a < 2147483648) : (-1 = nn a) = False := by
  rw [← Int32.toInt_inj, nn_toInt ha, nn_m1i]; exact eq_false (by omega)
theorem nn_mlt {b : Nat} (hb : b < 2147483648) : ((-1 : Int32) < nn b) = True := by
  rw [Int32.lt_iff_toInt_lt, nn_toInt hb, nn_m1i]; exact eq_true (by omega)
theorem nn_mle {b : Nat} (hb : b < 2147483648) : ((-1 : Int32) ≤ nn b) = True := by
  rw [Int32.le_iff_toInt_le, nn_toInt hb, nn_m1i]; exact eq_true (by omega)
theorem nn_ltm {b : Nat} (hb : b < 2147483648) : (nn b < (-1 : Int32)) = False := by
  rw [Int32.lt_iff_toInt_lt, nn_toInt hb, nn_m1i]; exact eq_false (by omega)
theorem nn_lem {b : Nat} (hb : b < 2147483648) : (nn b ≤ (-1 : Int32)) = False := by
  rw [Int32.le_iff_toInt_le, nn_toInt hb, nn_m1i]; exact eq_false (by omega)
theorem nn_in {a m : Nat} (ha : a < 2147483648) : am_in (nn a) m = decide (a < m) := by
  have h : (nn a < 0) = False := by rw [nn_0, nn_lt ha (by omega)]; exact eq_false (by omega)
  unfold am_in
  rw [nn_tn ha]
  by_cases h2 : a < m
  · simp [h, h2, Nat.not_le.mpr h2]
  · simp [h, h2, Nat.not_lt.mp h2]
theorem nn_add (a b : Nat) : nn a + nn b = nn (a + b) := (Int32.ofNat_add a b).symm
theorem nn_mul (a b : Nat) : nn a * nn b = nn (a * b) := (Int32.ofNat_mul a b).symm
theorem nn_sub {a b : Nat} (h : b ≤ a) : nn a - nn b = nn (a - b) := (Int32.ofNat_sub _ _ h).symm
theorem nn_div {a b : Nat} (ha : a < 2147483648) (hb : b < 2147483648) : nn a / nn b = nn (a / b) := (Int32.ofNat_div ha hb).symm
theorem nn_nar0 : am_nar 1 (nn 0) = nn 0 := by decide
theorem nn_nar1 : am_nar 1 (nn 1) = nn 1 := by decide
theorem nn_of {x : Int32} (h1 : 0 ≤ x) : x = nn x.toNatClampNeg ∧ x.toNatClampNeg < 2147483648 := by
  have h2 : (0 : Int) ≤ x.toInt := by have := Int32.le_iff_toInt_le.mp h1; simpa using this
  have h3 := Int32.toInt_lt x
  have h4 : x.toNatClampNeg < 2147483648 := by unfold Int32.toNatClampNeg; omega
  refine ⟨?_, h4⟩
  rw [← Int32.toInt_inj, nn_toInt h4]
  unfold Int32.toNatClampNeg
  omega
/-! reads behind writes -/
theorem kS_1 (s : KS) (c i : Nat) (x : Int32) (d : Nat) : (kS s c i x).1 d = if d = c then upd (s.1 c) i x else s.1 d := rfl
theorem kS_2 (s : KS) (c i : Nat) (x : Int32) : (kS s c i x).2 = s.2 := rfl
theorem kG_1 (s : KS) (p q : Nat) (x : Int32) : (kG s p q x).1 = s.1 := rfl
theorem kG_2 (s : KS) (p q : Nat) (x : Int32) (d : Nat) : (kG s p q x).2 d = if d = p then upd (s.2 p) q x else s.2 d := rfl
theorem upd_a (g : Nat → Int32) (i : Nat) (x : Int32) : upd g i x i = x := if_pos rfl
theorem upd_n {g : Nat → Int32} {i j : Nat} {x : Int32} (h : j ≠ i) : upd g i x j = g j := if_neg h
theorem upd_e (g : Nat → Int32) (i : Nat) (x : Int32) (j : Nat) : upd g i x j = if j = i then x else g j := rfl
theorem nn_p1 (a : Nat) : nn a + 1 = nn (a + 1) := nn_add a 1
theorem nn_p0 (a : Nat) : nn a + 0 = nn a := nn_add a 0
theorem nn_e0 {a : Nat} (h : a < 2147483648) : (nn a = 0) = (a = 0) := nn_eq (a := a) (b := 0) h (by omega)
theorem nn_e1 {a : Nat} (h : a < 2147483648) : (nn a = 1) = (a = 1) := nn_eq (a := a) (b := 1) h (by omega)
theorem nn_l0 {a : Nat} (h : a < 2147483648) : (nn a < 0) = False := (nn_lt (a := a) (b := 0) h (by omega)).trans (eq_false (by omega))
theorem nn_g0 {a : Nat} (h : a < 2147483648) : (0 ≤ nn a) = True := (nn_le (a := 0) (b := a) (by omega) h).trans (eq_true (by omega))
theorem nn_le1 {a : Nat} (h : a < 2147483648) : (nn a ≤ 1) = (a ≤ 1) := nn_le (a := a) (b := 1) h (by omega)
theorem nn_le0 {a : Nat} (h : a < 2147483648) : (nn a ≤ 0) = (a = 0) := (nn_le (a := a) (b := 0) h (by omega)).trans (propext (by omega))
theorem m1_l0 : ((-1 : Int32) < 0) = True := by decide
theorem m1_g0 : ((0 : Int32) ≤ -1) = False := by decide
theorem m1_100 : ((-1 : Int32) < 100) = True := by decide
theorem m1_100' : ((100 : Int32) ≤ -1) = False := by decide
theorem nn_100l {a : Nat} (h : a < 2147483648) : (nn a < 100) = (a < 100) := nn_lt (a := a) (b := 100) h (by omega)
theorem nn_100g {a : Nat} (h : a < 2147483648) : (100 ≤ nn a) = (100 ≤ a) := nn_le (a := 100) (b := a) (by omega) h
theorem nn_100s (a : Nat) : nn (100 + a) - 100 = nn a := (nn_sub (a := 100 + a) (b := 100) (by omega)).trans (congrArg nn (by omega))
theorem nn_100p (a : Nat) : 100 + nn a = nn (100 + a) := nn_add 100 a
theorem nn_64l {a : Nat} (h : a < 2147483648) : (nn a < 64) = (a < 64) := nn_lt (a := a) (b := 64) h (by omega)
theorem nn_64g {a : Nat} (h : a < 2147483648) : (64 ≤ nn a) = (64 ≤ a) := nn_le (a := 64) (b := a) (by omega) h
theorem nn_6g {a : Nat} (h : a < 2147483648) : (6 ≤ nn a) = (6 ≤ a) := nn_le (a := 6) (b := a) (by omega) h
theorem nn_9g {a : Nat} (h : a < 2147483648) : (9 ≤ nn a) = (9 ≤ a) := nn_le (a := 9) (b := a) (by omega) h
theorem nn_4g {a : Nat} (h : a < 2147483648) : (4 ≤ nn a) = (4 ≤ a) := nn_le (a := 4) (b := a) (by omega) h
theorem nn_54g {a : Nat} (h : a < 2147483648) : (54 ≤ nn a) = (54 ≤ a) := nn_le (a := 54) (b := a) (by omega) h
theorem nn_59g {a : Nat} (h : a < 2147483648) : (59 ≤ nn a) = (59 ≤ a) := nn_le (a := 59) (b := a) (by omega) h
theorem nn_70g {a : Nat} (h : a < 2147483648) : (70 ≤ nn a) = (70 ≤ a) := nn_le (a := 70) (b := a) (by omega) h
theorem nn_11g {a : Nat} (h : a < 2147483648) : (11 ≤ nn a) = (11 ≤ a) := nn_le (a := 11) (b := a) (by omega) h
theorem nn_4m (a : Nat) : nn a * 4 = nn (a * 4) := nn_mul a 4
theorem nn_m4 (a : Nat) : 4 * nn a = nn (4 * a) := nn_mul 4 a
theorem nn_m9 (a : Nat) : 9 * nn a = nn (9 * a) := nn_mul 9 a
theorem nn_m2 (a : Nat) : 2 * nn a = nn (2 * a) := nn_mul 2 a
theorem nn_2m (a : Nat) : nn a * 2 = nn (a * 2) := nn_mul a 2
theorem nar0 : am_nar 1 0 = 0 := nn_nar0
theorem nar1 : am_nar 1 1 = 1 := nn_nar1
theorem fF {p : Prop} (h : ¬ p) : p = False := eq_false h
def nx (nf h : Nat) : Nat := if h + 1 < nf then h + 1 else 0
theorem nx_lt {nf h : Nat} (h0 : h < nf) : nx nf h < nf := by unfold nx; split <;> omega
theorem nn_rem {a b : Nat} (ha : a < 2147483648) (hb : b < 2147483648) : nn a - nn a / nn b * nn b = nn (a % b) := by
  rw [nn_div ha hb, nn_mul, nn_sub (Nat.div_mul_le_self a b)]
  congr 1
  have := Nat.div_add_mod a b
  rw [Nat.mul_comm] at this
  omega
theorem nx_mod {nf h : Nat} (h0 : h < nf) : (h + 1) % nf = nx nf h := by
  unfold nx
  split
  · exact Nat.mod_eq_of_lt (by assumption)
  · have : h + 1 = nf := by omega
    rw [this, Nat.mod_self]
