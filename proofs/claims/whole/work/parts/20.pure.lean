/-! the runs as functions of the state alone: arrays by cell number, the grid -/
abbrev KS : Type := (Nat → Nat → Int32) × (Nat → Nat → Int32)
abbrev KR : Type := Option ((Option Int32 ⊕ Nat) × KS)
def kS (s : KS) (c i : Nat) (x : Int32) : KS := (va_up s.1 c (upd (s.1 c) i x), s.2)
def kG (s : KS) (p q : Nat) (x : Int32) : KS := (s.1, va_up s.2 p (upd (s.2 p) q x))
def kC (s : KS) (c sp dp n : Nat) : KS := (va_up s.1 c (va_cpy (s.1 c) (s.1 c) sp dp n), s.2)
def kbi (o : KR) (G : Int32 → KS → KR) : KR := match o with
  | some (.inl (some x), s) => G x s
  | some (.inr x, s) => some (.inr x, s)
  | _ => none
def kbv (o : KR) (G : KS → KR) : KR := match o with
  | some (.inl none, s) => G s
  | some (.inr x, s) => some (.inr x, s)
  | _ => none
/-- the class's cells 0 .. 14 -/
def kH (nf ns : Nat) (rest : am_H) (s : KS) : am_H :=
  .inr (.inr (.inl (1, [.inl (.ref 8), .inl (.ref 1), .inl (.ref 2), .inl (.ref 3), .inl (.ref 4), .inl (.ref 5), .inl (.ref 6), .inl (.ref 7)]))) :: .inl (0, 6, s.1 1) :: .inl (0, 6, s.1 2) :: .inl (0, 6, s.1 3) :: .inl (0, 6, s.1 4) :: .inl (0, 6, s.1 5) :: .inl (0, 6, s.1 6) :: .inr (.inl (6, 11, s.2)) ::
  .inr (.inr (.inl (0, [.inl (.ref 9), .inl (.ref 10), .inl (.ref 11), .inl (.ref 12), .inl (.ref 13), .inl (.ref 14), .inl (.int (s.1 8 6)), .inl (.int (s.1 8 7)), .inl (.int (s.1 8 8)), .inl (.int (s.1 8 9))]))) :: .inl (0, 240, s.1 9) :: .inl (0, 60, s.1 10) :: .inl (0, 60, s.1 11) :: .inl (0, nf, s.1 12) :: .inl (1, nf, s.1 13) :: .inl (0, ns, s.1 14) :: rest
/-- the reference's cells 15 .. 28 -/
def mH (rest : am_H) (t : KS) : am_H :=
  .inr (.inr (.inl (2, [.inl (.int (t.1 15 0)), .inl (.int (t.1 15 1)), .inl (.int (t.1 15 2)), .inl (.ref 16), .inl (.ref 17), .inl (.ref 18), .inl (.ref 19), .inl (.ref 20), .inl (.ref 21), .inl (.ref 22), .inl (.ref 23), .inl (.ref 24), .inl (.ref 25), .inl (.ref 26), .inl (.ref 27), .inl (.ref 28), .inl (.int (t.1 15 16)), .inl (.int (t.1 15 17)), .inl (.int (t.1 15 18)), .inl (.int (t.1 15 19))]))) ::
  .inl (0, 6, t.1 16) :: .inl (0, 6, t.1 17) :: .inl (0, 6, t.1 18) :: .inl (0, 6, t.1 19) :: .inl (0, 6, t.1 20) :: .inl (0, 6, t.1 21) :: .inl (0, 54, t.1 22) :: .inl (0, 256, t.1 23) :: .inl (1, 64, t.1 24) :: .inl (0, 70, t.1 25) :: .inl (0, 10, t.1 26) :: .inl (1, 10, t.1 27) :: .inl (1, 20, t.1 28) :: rest
def hM (nf ns : Nat) (rest : am_H) (s0 : KS) (t : KS) : am_H := kH nf ns (mH rest t) s0
def am_lf (H : KS → am_H) (o : KR) : Option am_O := match o with
  | some (.inl (some x), s) => some (.inl (some (.inl (.int x))), H s)
  | some (.inl none, s) => some (.inl none, H s)
  | some (.inr x, s) => some (.inr x, H s)
  | none => none
theorem am_lcd {H : KS → am_H} {c : Bool} {a b : Option am_O} {A B : KR} (h1 : a = am_lf H A) (h2 : b = am_lf H B) : cond c a b = am_lf H (cond c A B) := by
  cases c
  · exact h2
  · exact h1
theorem am_lite {H : KS → am_H} {P : Prop} [Decidable P] {a : Option am_O} {A : KR} (h1 : a = am_lf H A) : (if P then none else a) = am_lf H (if P then none else A) := by
  by_cases h : P
  · rw [if_pos h, if_pos h]; rfl
  · rw [if_neg h, if_neg h]; exact h1
theorem am_lbi {H : KS → am_H} {o : KR} {K : Int32 → am_H → Option am_O} {KX : Nat → am_H → Option am_O} {G : Int32 → KS → KR} (hK : ∀ x s, K x (H s) = am_lf H (G x s)) (hX : ∀ x s, KX x (H s) = some (.inr x, H s)) : am_ri (am_lf H o) K KX = am_lf H (kbi o G) := by
  match o with
  | none => rfl
  | some (.inl (some x), s) => exact hK x s
  | some (.inl none, s) => rfl
  | some (.inr x, s) => exact hX x s
theorem am_lbv {H : KS → am_H} {o : KR} {K : am_H → Option am_O} {KX : Nat → am_H → Option am_O} {G : KS → KR} (hK : ∀ s, K (H s) = am_lf H (G s)) (hX : ∀ x s, KX x (H s) = some (.inr x, H s)) : am_rv (am_lf H o) K KX = am_lf H (kbv o G) := by
  match o with
  | none => rfl
  | some (.inl (some x), s) => rfl
  | some (.inl none, s) => exact hK s
  | some (.inr x, s) => exact hX x s
theorem am_fn_g {T : am_I} {X : am_X} {nL : Nat} {rt : Option FieldType} {rs : Nat → Option (Nat × (Nat → Int32))} {hs : am_Hs} {kp : am_Kp} {n : Nat} {b : Nat × Nat} {as : List am_V} {h : am_H} (hh : (as.map am_cat).sum ≤ nL) : am_fn T X nL rt rs hs kp (n + 1) b as h = am_go X nL rt rs hs kp (am_lp T X nL rt rs hs kp n) 1000 (am_from 0 T) (am_args 0 as) [] h b := if_pos hh
