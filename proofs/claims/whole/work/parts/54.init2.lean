def oX2 : am_C := .inr (.inr (.inl (2, [.inl (.int 0), .inl (.int 0), .inl (.int 0), .inl .null, .inl .null, .inl .null, .inl .null, .inl .null, .inl .null, .inl .null, .inl .null, .inl .null, .inl .null, .inl .null, .inl .null, .inl .null, .inl (.int 0), .inl (.int 0), .inl (.int 0), .inl (.int 0)])))
set_option maxRecDepth 20000 in
def g_X2_init (n f pc : Nat) (lv : am_Lv) (st : List am_V) (h : am_H) (b : Nat × Nat) : Option am_O := am_go X_X2_init 4 none am_rs0 [] [(160, [0, 3]), (181, [0, 3]), (202, [0, 3])] (am_lp T_X2_init X_X2_init 4 none am_rs0 [] [(160, [0, 3]), (181, [0, 3]), (202, [0, 3])] n) f (am_from pc T_X2_init) lv st h b
set_option maxRecDepth 20000 in
def j_X2_init (n pc : Nat) (lv : am_Lv) (st : List am_V) (h : am_H) (b : Nat × Nat) : Option am_O := am_lp T_X2_init X_X2_init 4 none am_rs0 [] [(160, [0, 3]), (181, [0, 3]), (202, [0, 3])] n pc lv st h b
set_option maxRecDepth 20000 in
theorem j_X2_init_g (n pc : Nat) (lv : am_Lv) (st : List am_V) (h : am_H) (b : Nat × Nat) : j_X2_init (n + 1) pc lv st h b = g_X2_init n 1000 pc lv st h b := rfl
set_option maxRecDepth 20000 in
theorem i2_s (nf ns : Nat) (s t : KS) (a1 a2 : Int32) : ∀ f n : Nat, g_X2_init n (f + 2) 0 [(0, .inl (.ref 15)), (1, .inl (.int a1)), (2, .inl (.int a2))] [] (kH nf ns (.inr (.inr (.inl (2, [.inl (.int 0), .inl (.int 0), .inl (.int 0), .inl .null, .inl .null, .inl .null, .inl .null, .inl .null, .inl .null, .inl .null, .inl .null, .inl .null, .inl .null, .inl .null, .inl .null, .inl .null, .inl (.int 0), .inl (.int 0), .inl (.int 0), .inl (.int 0)]))) :: []) s) (13, 3900) = g_X2_init n f 4 [(0, .inl (.ref 15)), (1, .inl (.int a1)), (2, .inl (.int a2))] [] (kH nf ns (.inr (.inr (.inl (2, [.inl (.int 0), .inl (.int 0), .inl (.int 0), .inl .null, .inl .null, .inl .null, .inl .null, .inl .null, .inl .null, .inl .null, .inl .null, .inl .null, .inl .null, .inl .null, .inl .null, .inl .null, .inl (.int 0), .inl (.int 0), .inl (.int 0), .inl (.int 0)]))) :: []) s) (13, 3900) := fun f n => rfl
set_option maxRecDepth 20000 in
theorem i2_s0 (nf ns : Nat) (s t : KS) (a1 a2 : Int32) : ∀ f n : Nat, g_X2_init n (f + 4) 4 [(0, .inl (.ref 15)), (1, .inl (.int a1)), (2, .inl (.int a2))] [] (kH nf ns (.inr (.inr (.inl (2, [.inl (.int 0), .inl (.int 0), .inl (.int 0), .inl .null, .inl .null, .inl .null, .inl .null, .inl .null, .inl .null, .inl .null, .inl .null, .inl .null, .inl .null, .inl .null, .inl .null, .inl .null, .inl (.int 0), .inl (.int 0), .inl (.int 0), .inl (.int 0)]))) :: []) s) (13, 3900) = g_X2_init n f 12 [(0, .inl (.ref 15)), (1, .inl (.int a1)), (2, .inl (.int a2))] [] (kH nf ns (.inr (.inr (.inl (2, [.inl (.int 0), .inl (.int 0), .inl (.int 0), .inl (.ref 16), .inl .null, .inl .null, .inl .null, .inl .null, .inl .null, .inl .null, .inl .null, .inl .null, .inl .null, .inl .null, .inl .null, .inl .null, .inl (.int 0), .inl (.int 0), .inl (.int 0), .inl (.int 0)]))) :: [.inl (0, 6, fun _ => 0)]) s) (12, 3894) := fun f n => rfl
set_option maxRecDepth 20000 in
theorem i2_s1 (nf ns : Nat) (s t : KS) (a1 a2 : Int32) : ∀ f n : Nat, g_X2_init n (f + 4) 12 [(0, .inl (.ref 15)), (1, .inl (.int a1)), (2, .inl (.int a2))] [] (kH nf ns (.inr (.inr (.inl (2, [.inl (.int 0), .inl (.int 0), .inl (.int 0), .inl (.ref 16), .inl .null, .inl .null, .inl .null, .inl .null, .inl .null, .inl .null, .inl .null, .inl .null, .inl .null, .inl .null, .inl .null, .inl .null, .inl (.int 0), .inl (.int 0), .inl (.int 0), .inl (.int 0)]))) :: [.inl (0, 6, fun _ => 0)]) s) (12, 3894) = g_X2_init n f 20 [(0, .inl (.ref 15)), (1, .inl (.int a1)), (2, .inl (.int a2))] [] (kH nf ns (.inr (.inr (.inl (2, [.inl (.int 0), .inl (.int 0), .inl (.int 0), .inl (.ref 16), .inl (.ref 17), .inl .null, .inl .null, .inl .null, .inl .null, .inl .null, .inl .null, .inl .null, .inl .null, .inl .null, .inl .null, .inl .null, .inl (.int 0), .inl (.int 0), .inl (.int 0), .inl (.int 0)]))) :: [.inl (0, 6, fun _ => 0), .inl (0, 6, fun _ => 0)]) s) (11, 3888) := fun f n => rfl
set_option maxRecDepth 20000 in
theorem i2_s2 (nf ns : Nat) (s t : KS) (a1 a2 : Int32) : ∀ f n : Nat, g_X2_init n (f + 4) 20 [(0, .inl (.ref 15)), (1, .inl (.int a1)), (2, .inl (.int a2))] [] (kH nf ns (.inr (.inr (.inl (2, [.inl (.int 0), .inl (.int 0), .inl (.int 0), .inl (.ref 16), .inl (.ref 17), .inl .null, .inl .null, .inl .null, .inl .null, .inl .null, .inl .null, .inl .null, .inl .null, .inl .null, .inl .null, .inl .null, .inl (.int 0), .inl (.int 0), .inl (.int 0), .inl (.int 0)]))) :: [.inl (0, 6, fun _ => 0), .inl (0, 6, fun _ => 0)]) s) (11, 3888) = g_X2_init n f 28 [(0, .inl (.ref 15)), (1, .inl (.int a1)), (2, .inl (.int a2))] [] (kH nf ns (.inr (.inr (.inl (2, [.inl (.int 0), .inl (.int 0), .inl (.int 0), .inl (.ref 16), .inl (.ref 17), .inl (.ref 18), .inl .null, .inl .null, .inl .null, .inl .null, .inl .null, .inl .null, .inl .null, .inl .null, .inl .null, .inl .null, .inl (.int 0), .inl (.int 0), .inl (.int 0), .inl (.int 0)]))) :: [.inl (0, 6, fun _ => 0), .inl (0, 6, fun _ => 0), .inl (0, 6, fun _ => 0)]) s) (10, 3882) := fun f n => rfl
set_option maxRecDepth 20000 in
theorem i2_s3 (nf ns : Nat) (s t : KS) (a1 a2 : Int32) : ∀ f n : Nat, g_X2_init n (f + 4) 28 [(0, .inl (.ref 15)), (1, .inl (.int a1)), (2, .inl (.int a2))] [] (kH nf ns (.inr (.inr (.inl (2, [.inl (.int 0), .inl (.int 0), .inl (.int 0), .inl (.ref 16), .inl (.ref 17), .inl (.ref 18), .inl .null, .inl .null, .inl .null, .inl .null, .inl .null, .inl .null, .inl .null, .inl .null, .inl .null, .inl .null, .inl (.int 0), .inl (.int 0), .inl (.int 0), .inl (.int 0)]))) :: [.inl (0, 6, fun _ => 0), .inl (0, 6, fun _ => 0), .inl (0, 6, fun _ => 0)]) s) (10, 3882) = g_X2_init n f 36 [(0, .inl (.ref 15)), (1, .inl (.int a1)), (2, .inl (.int a2))] [] (kH nf ns (.inr (.inr (.inl (2, [.inl (.int 0), .inl (.int 0), .inl (.int 0), .inl (.ref 16), .inl (.ref 17), .inl (.ref 18), .inl (.ref 19), .inl .null, .inl .null, .inl .null, .inl .null, .inl .null, .inl .null, .inl .null, .inl .null, .inl .null, .inl (.int 0), .inl (.int 0), .inl (.int 0), .inl (.int 0)]))) :: [.inl (0, 6, fun _ => 0), .inl (0, 6, fun _ => 0), .inl (0, 6, fun _ => 0), .inl (0, 6, fun _ => 0)]) s) (9, 3876) := fun f n => rfl
set_option maxRecDepth 20000 in
theorem i2_s4 (nf ns : Nat) (s t : KS) (a1 a2 : Int32) : ∀ f n : Nat, g_X2_init n (f + 4) 36 [(0, .inl (.ref 15)), (1, .inl (.int a1)), (2, .inl (.int a2))] [] (kH nf ns (.inr (.inr (.inl (2, [.inl (.int 0), .inl (.int 0), .inl (.int 0), .inl (.ref 16), .inl (.ref 17), .inl (.ref 18), .inl (.ref 19), .inl .null, .inl .null, .inl .null, .inl .null, .inl .null, .inl .null, .inl .null, .inl .null, .inl .null, .inl (.int 0), .inl (.int 0), .inl (.int 0), .inl (.int 0)]))) :: [.inl (0, 6, fun _ => 0), .inl (0, 6, fun _ => 0), .inl (0, 6, fun _ => 0), .inl (0, 6, fun _ => 0)]) s) (9, 3876) = g_X2_init n f 44 [(0, .inl (.ref 15)), (1, .inl (.int a1)), (2, .inl (.int a2))] [] (kH nf ns (.inr (.inr (.inl (2, [.inl (.int 0), .inl (.int 0), .inl (.int 0), .inl (.ref 16), .inl (.ref 17), .inl (.ref 18), .inl (.ref 19), .inl (.ref 20), .inl .null, .inl .null, .inl .null, .inl .null, .inl .null, .inl .null, .inl .null, .inl .null, .inl (.int 0), .inl (.int 0), .inl (.int 0), .inl (.int 0)]))) :: [.inl (0, 6, fun _ => 0), .inl (0, 6, fun _ => 0), .inl (0, 6, fun _ => 0), .inl (0, 6, fun _ => 0), .inl (0, 6, fun _ => 0)]) s) (8, 3870) := fun f n => rfl
set_option maxRecDepth 20000 in
theorem i2_s5 (nf ns : Nat) (s t : KS) (a1 a2 : Int32) : ∀ f n : Nat, g_X2_init n (f + 4) 44 [(0, .inl (.ref 15)), (1, .inl (.int a1)), (2, .inl (.int a2))] [] (kH nf ns (.inr (.inr (.inl (2, [.inl (.int 0), .inl (.int 0), .inl (.int 0), .inl (.ref 16), .inl (.ref 17), .inl (.ref 18), .inl (.ref 19), .inl (.ref 20), .inl .null, .inl .null, .inl .null, .inl .null, .inl .null, .inl .null, .inl .null, .inl .null, .inl (.int 0), .inl (.int 0), .inl (.int 0), .inl (.int 0)]))) :: [.inl (0, 6, fun _ => 0), .inl (0, 6, fun _ => 0), .inl (0, 6, fun _ => 0), .inl (0, 6, fun _ => 0), .inl (0, 6, fun _ => 0)]) s) (8, 3870) = g_X2_init n f 52 [(0, .inl (.ref 15)), (1, .inl (.int a1)), (2, .inl (.int a2))] [] (kH nf ns (.inr (.inr (.inl (2, [.inl (.int 0), .inl (.int 0), .inl (.int 0), .inl (.ref 16), .inl (.ref 17), .inl (.ref 18), .inl (.ref 19), .inl (.ref 20), .inl (.ref 21), .inl .null, .inl .null, .inl .null, .inl .null, .inl .null, .inl .null, .inl .null, .inl (.int 0), .inl (.int 0), .inl (.int 0), .inl (.int 0)]))) :: [.inl (0, 6, fun _ => 0), .inl (0, 6, fun _ => 0), .inl (0, 6, fun _ => 0), .inl (0, 6, fun _ => 0), .inl (0, 6, fun _ => 0), .inl (0, 6, fun _ => 0)]) s) (7, 3864) := fun f n => rfl
set_option maxRecDepth 20000 in
theorem i2_s6 (nf ns : Nat) (s t : KS) (a1 a2 : Int32) : ∀ f n : Nat, g_X2_init n (f + 4) 52 [(0, .inl (.ref 15)), (1, .inl (.int a1)), (2, .inl (.int a2))] [] (kH nf ns (.inr (.inr (.inl (2, [.inl (.int 0), .inl (.int 0), .inl (.int 0), .inl (.ref 16), .inl (.ref 17), .inl (.ref 18), .inl (.ref 19), .inl (.ref 20), .inl (.ref 21), .inl .null, .inl .null, .inl .null, .inl .null, .inl .null, .inl .null, .inl .null, .inl (.int 0), .inl (.int 0), .inl (.int 0), .inl (.int 0)]))) :: [.inl (0, 6, fun _ => 0), .inl (0, 6, fun _ => 0), .inl (0, 6, fun _ => 0), .inl (0, 6, fun _ => 0), .inl (0, 6, fun _ => 0), .inl (0, 6, fun _ => 0)]) s) (7, 3864) = g_X2_init n f 60 [(0, .inl (.ref 15)), (1, .inl (.int a1)), (2, .inl (.int a2))] [] (kH nf ns (.inr (.inr (.inl (2, [.inl (.int 0), .inl (.int 0), .inl (.int 0), .inl (.ref 16), .inl (.ref 17), .inl (.ref 18), .inl (.ref 19), .inl (.ref 20), .inl (.ref 21), .inl (.ref 22), .inl .null, .inl .null, .inl .null, .inl .null, .inl .null, .inl .null, .inl (.int 0), .inl (.int 0), .inl (.int 0), .inl (.int 0)]))) :: [.inl (0, 6, fun _ => 0), .inl (0, 6, fun _ => 0), .inl (0, 6, fun _ => 0), .inl (0, 6, fun _ => 0), .inl (0, 6, fun _ => 0), .inl (0, 6, fun _ => 0), .inl (0, 54, fun _ => 0)]) s) (6, 3810) := fun f n => rfl
set_option maxRecDepth 20000 in
theorem i2_s7 (nf ns : Nat) (s t : KS) (a1 a2 : Int32) : ∀ f n : Nat, g_X2_init n (f + 4) 60 [(0, .inl (.ref 15)), (1, .inl (.int a1)), (2, .inl (.int a2))] [] (kH nf ns (.inr (.inr (.inl (2, [.inl (.int 0), .inl (.int 0), .inl (.int 0), .inl (.ref 16), .inl (.ref 17), .inl (.ref 18), .inl (.ref 19), .inl (.ref 20), .inl (.ref 21), .inl (.ref 22), .inl .null, .inl .null, .inl .null, .inl .null, .inl .null, .inl .null, .inl (.int 0), .inl (.int 0), .inl (.int 0), .inl (.int 0)]))) :: [.inl (0, 6, fun _ => 0), .inl (0, 6, fun _ => 0), .inl (0, 6, fun _ => 0), .inl (0, 6, fun _ => 0), .inl (0, 6, fun _ => 0), .inl (0, 6, fun _ => 0), .inl (0, 54, fun _ => 0)]) s) (6, 3810) = g_X2_init n f 69 [(0, .inl (.ref 15)), (1, .inl (.int a1)), (2, .inl (.int a2))] [] (kH nf ns (.inr (.inr (.inl (2, [.inl (.int 0), .inl (.int 0), .inl (.int 0), .inl (.ref 16), .inl (.ref 17), .inl (.ref 18), .inl (.ref 19), .inl (.ref 20), .inl (.ref 21), .inl (.ref 22), .inl (.ref 23), .inl .null, .inl .null, .inl .null, .inl .null, .inl .null, .inl (.int 0), .inl (.int 0), .inl (.int 0), .inl (.int 0)]))) :: [.inl (0, 6, fun _ => 0), .inl (0, 6, fun _ => 0), .inl (0, 6, fun _ => 0), .inl (0, 6, fun _ => 0), .inl (0, 6, fun _ => 0), .inl (0, 6, fun _ => 0), .inl (0, 54, fun _ => 0), .inl (0, 256, fun _ => 0)]) s) (5, 3554) := fun f n => rfl
set_option maxRecDepth 20000 in
theorem i2_s8 (nf ns : Nat) (s t : KS) (a1 a2 : Int32) : ∀ f n : Nat, g_X2_init n (f + 4) 69 [(0, .inl (.ref 15)), (1, .inl (.int a1)), (2, .inl (.int a2))] [] (kH nf ns (.inr (.inr (.inl (2, [.inl (.int 0), .inl (.int 0), .inl (.int 0), .inl (.ref 16), .inl (.ref 17), .inl (.ref 18), .inl (.ref 19), .inl (.ref 20), .inl (.ref 21), .inl (.ref 22), .inl (.ref 23), .inl .null, .inl .null, .inl .null, .inl .null, .inl .null, .inl (.int 0), .inl (.int 0), .inl (.int 0), .inl (.int 0)]))) :: [.inl (0, 6, fun _ => 0), .inl (0, 6, fun _ => 0), .inl (0, 6, fun _ => 0), .inl (0, 6, fun _ => 0), .inl (0, 6, fun _ => 0), .inl (0, 6, fun _ => 0), .inl (0, 54, fun _ => 0), .inl (0, 256, fun _ => 0)]) s) (5, 3554) = g_X2_init n f 77 [(0, .inl (.ref 15)), (1, .inl (.int a1)), (2, .inl (.int a2))] [] (kH nf ns (.inr (.inr (.inl (2, [.inl (.int 0), .inl (.int 0), .inl (.int 0), .inl (.ref 16), .inl (.ref 17), .inl (.ref 18), .inl (.ref 19), .inl (.ref 20), .inl (.ref 21), .inl (.ref 22), .inl (.ref 23), .inl (.ref 24), .inl .null, .inl .null, .inl .null, .inl .null, .inl (.int 0), .inl (.int 0), .inl (.int 0), .inl (.int 0)]))) :: [.inl (0, 6, fun _ => 0), .inl (0, 6, fun _ => 0), .inl (0, 6, fun _ => 0), .inl (0, 6, fun _ => 0), .inl (0, 6, fun _ => 0), .inl (0, 6, fun _ => 0), .inl (0, 54, fun _ => 0), .inl (0, 256, fun _ => 0), .inl (1, 64, fun _ => 0)]) s) (4, 3490) := fun f n => rfl
set_option maxRecDepth 20000 in
theorem i2_s9 (nf ns : Nat) (s t : KS) (a1 a2 : Int32) : ∀ f n : Nat, g_X2_init n (f + 4) 77 [(0, .inl (.ref 15)), (1, .inl (.int a1)), (2, .inl (.int a2))] [] (kH nf ns (.inr (.inr (.inl (2, [.inl (.int 0), .inl (.int 0), .inl (.int 0), .inl (.ref 16), .inl (.ref 17), .inl (.ref 18), .inl (.ref 19), .inl (.ref 20), .inl (.ref 21), .inl (.ref 22), .inl (.ref 23), .inl (.ref 24), .inl .null, .inl .null, .inl .null, .inl .null, .inl (.int 0), .inl (.int 0), .inl (.int 0), .inl (.int 0)]))) :: [.inl (0, 6, fun _ => 0), .inl (0, 6, fun _ => 0), .inl (0, 6, fun _ => 0), .inl (0, 6, fun _ => 0), .inl (0, 6, fun _ => 0), .inl (0, 6, fun _ => 0), .inl (0, 54, fun _ => 0), .inl (0, 256, fun _ => 0), .inl (1, 64, fun _ => 0)]) s) (4, 3490) = g_X2_init n f 85 [(0, .inl (.ref 15)), (1, .inl (.int a1)), (2, .inl (.int a2))] [] (kH nf ns (.inr (.inr (.inl (2, [.inl (.int 0), .inl (.int 0), .inl (.int 0), .inl (.ref 16), .inl (.ref 17), .inl (.ref 18), .inl (.ref 19), .inl (.ref 20), .inl (.ref 21), .inl (.ref 22), .inl (.ref 23), .inl (.ref 24), .inl (.ref 25), .inl .null, .inl .null, .inl .null, .inl (.int 0), .inl (.int 0), .inl (.int 0), .inl (.int 0)]))) :: [.inl (0, 6, fun _ => 0), .inl (0, 6, fun _ => 0), .inl (0, 6, fun _ => 0), .inl (0, 6, fun _ => 0), .inl (0, 6, fun _ => 0), .inl (0, 6, fun _ => 0), .inl (0, 54, fun _ => 0), .inl (0, 256, fun _ => 0), .inl (1, 64, fun _ => 0), .inl (0, 70, fun _ => 0)]) s) (3, 3420) := fun f n => rfl
set_option maxRecDepth 20000 in
theorem i2_s10 (nf ns : Nat) (s t : KS) (a1 a2 : Int32) : ∀ f n : Nat, g_X2_init n (f + 4) 85 [(0, .inl (.ref 15)), (1, .inl (.int a1)), (2, .inl (.int a2))] [] (kH nf ns (.inr (.inr (.inl (2, [.inl (.int 0), .inl (.int 0), .inl (.int 0), .inl (.ref 16), .inl (.ref 17), .inl (.ref 18), .inl (.ref 19), .inl (.ref 20), .inl (.ref 21), .inl (.ref 22), .inl (.ref 23), .inl (.ref 24), .inl (.ref 25), .inl .null, .inl .null, .inl .null, .inl (.int 0), .inl (.int 0), .inl (.int 0), .inl (.int 0)]))) :: [.inl (0, 6, fun _ => 0), .inl (0, 6, fun _ => 0), .inl (0, 6, fun _ => 0), .inl (0, 6, fun _ => 0), .inl (0, 6, fun _ => 0), .inl (0, 6, fun _ => 0), .inl (0, 54, fun _ => 0), .inl (0, 256, fun _ => 0), .inl (1, 64, fun _ => 0), .inl (0, 70, fun _ => 0)]) s) (3, 3420) = g_X2_init n f 93 [(0, .inl (.ref 15)), (1, .inl (.int a1)), (2, .inl (.int a2))] [] (kH nf ns (.inr (.inr (.inl (2, [.inl (.int 0), .inl (.int 0), .inl (.int 0), .inl (.ref 16), .inl (.ref 17), .inl (.ref 18), .inl (.ref 19), .inl (.ref 20), .inl (.ref 21), .inl (.ref 22), .inl (.ref 23), .inl (.ref 24), .inl (.ref 25), .inl (.ref 26), .inl .null, .inl .null, .inl (.int 0), .inl (.int 0), .inl (.int 0), .inl (.int 0)]))) :: [.inl (0, 6, fun _ => 0), .inl (0, 6, fun _ => 0), .inl (0, 6, fun _ => 0), .inl (0, 6, fun _ => 0), .inl (0, 6, fun _ => 0), .inl (0, 6, fun _ => 0), .inl (0, 54, fun _ => 0), .inl (0, 256, fun _ => 0), .inl (1, 64, fun _ => 0), .inl (0, 70, fun _ => 0), .inl (0, 10, fun _ => 0)]) s) (2, 3410) := fun f n => rfl
set_option maxRecDepth 20000 in
theorem i2_s11 (nf ns : Nat) (s t : KS) (a1 a2 : Int32) : ∀ f n : Nat, g_X2_init n (f + 4) 93 [(0, .inl (.ref 15)), (1, .inl (.int a1)), (2, .inl (.int a2))] [] (kH nf ns (.inr (.inr (.inl (2, [.inl (.int 0), .inl (.int 0), .inl (.int 0), .inl (.ref 16), .inl (.ref 17), .inl (.ref 18), .inl (.ref 19), .inl (.ref 20), .inl (.ref 21), .inl (.ref 22), .inl (.ref 23), .inl (.ref 24), .inl (.ref 25), .inl (.ref 26), .inl .null, .inl .null, .inl (.int 0), .inl (.int 0), .inl (.int 0), .inl (.int 0)]))) :: [.inl (0, 6, fun _ => 0), .inl (0, 6, fun _ => 0), .inl (0, 6, fun _ => 0), .inl (0, 6, fun _ => 0), .inl (0, 6, fun _ => 0), .inl (0, 6, fun _ => 0), .inl (0, 54, fun _ => 0), .inl (0, 256, fun _ => 0), .inl (1, 64, fun _ => 0), .inl (0, 70, fun _ => 0), .inl (0, 10, fun _ => 0)]) s) (2, 3410) = g_X2_init n f 101 [(0, .inl (.ref 15)), (1, .inl (.int a1)), (2, .inl (.int a2))] [] (kH nf ns (.inr (.inr (.inl (2, [.inl (.int 0), .inl (.int 0), .inl (.int 0), .inl (.ref 16), .inl (.ref 17), .inl (.ref 18), .inl (.ref 19), .inl (.ref 20), .inl (.ref 21), .inl (.ref 22), .inl (.ref 23), .inl (.ref 24), .inl (.ref 25), .inl (.ref 26), .inl (.ref 27), .inl .null, .inl (.int 0), .inl (.int 0), .inl (.int 0), .inl (.int 0)]))) :: [.inl (0, 6, fun _ => 0), .inl (0, 6, fun _ => 0), .inl (0, 6, fun _ => 0), .inl (0, 6, fun _ => 0), .inl (0, 6, fun _ => 0), .inl (0, 6, fun _ => 0), .inl (0, 54, fun _ => 0), .inl (0, 256, fun _ => 0), .inl (1, 64, fun _ => 0), .inl (0, 70, fun _ => 0), .inl (0, 10, fun _ => 0), .inl (1, 10, fun _ => 0)]) s) (1, 3400) := fun f n => rfl
set_option maxRecDepth 20000 in
theorem i2_s12 (nf ns : Nat) (s t : KS) (a1 a2 : Int32) : ∀ f n : Nat, g_X2_init n (f + 4) 101 [(0, .inl (.ref 15)), (1, .inl (.int a1)), (2, .inl (.int a2))] [] (kH nf ns (.inr (.inr (.inl (2, [.inl (.int 0), .inl (.int 0), .inl (.int 0), .inl (.ref 16), .inl (.ref 17), .inl (.ref 18), .inl (.ref 19), .inl (.ref 20), .inl (.ref 21), .inl (.ref 22), .inl (.ref 23), .inl (.ref 24), .inl (.ref 25), .inl (.ref 26), .inl (.ref 27), .inl .null, .inl (.int 0), .inl (.int 0), .inl (.int 0), .inl (.int 0)]))) :: [.inl (0, 6, fun _ => 0), .inl (0, 6, fun _ => 0), .inl (0, 6, fun _ => 0), .inl (0, 6, fun _ => 0), .inl (0, 6, fun _ => 0), .inl (0, 6, fun _ => 0), .inl (0, 54, fun _ => 0), .inl (0, 256, fun _ => 0), .inl (1, 64, fun _ => 0), .inl (0, 70, fun _ => 0), .inl (0, 10, fun _ => 0), .inl (1, 10, fun _ => 0)]) s) (1, 3400) = g_X2_init n f 109 [(0, .inl (.ref 15)), (1, .inl (.int a1)), (2, .inl (.int a2))] [] (kH nf ns (.inr (.inr (.inl (2, [.inl (.int 0), .inl (.int 0), .inl (.int 0), .inl (.ref 16), .inl (.ref 17), .inl (.ref 18), .inl (.ref 19), .inl (.ref 20), .inl (.ref 21), .inl (.ref 22), .inl (.ref 23), .inl (.ref 24), .inl (.ref 25), .inl (.ref 26), .inl (.ref 27), .inl (.ref 28), .inl (.int 0), .inl (.int 0), .inl (.int 0), .inl (.int 0)]))) :: [.inl (0, 6, fun _ => 0), .inl (0, 6, fun _ => 0), .inl (0, 6, fun _ => 0), .inl (0, 6, fun _ => 0), .inl (0, 6, fun _ => 0), .inl (0, 6, fun _ => 0), .inl (0, 54, fun _ => 0), .inl (0, 256, fun _ => 0), .inl (1, 64, fun _ => 0), .inl (0, 70, fun _ => 0), .inl (0, 10, fun _ => 0), .inl (1, 10, fun _ => 0), .inl (1, 20, fun _ => 0)]) s) (0, 3380) := fun f n => rfl
set_option maxRecDepth 20000 in
theorem i2_t (nf ns : Nat) (s t : KS) (a1 a2 : Int32) : ∀ f n : Nat, g_X2_init n (f + 4) 109 [(0, .inl (.ref 15)), (1, .inl (.int a1)), (2, .inl (.int a2))] [] (hM nf ns [] s z0) (0, 3380) = cond (decide ((2 : Int32) ≤ a1)) (g_X2_init n f 119 [(0, .inl (.ref 15)), (1, .inl (.int a1)), (2, .inl (.int a2))] [.inl (.ref 15)] (hM nf ns [] s z0) (0, 3380)) (g_X2_init n f 115 [(0, .inl (.ref 15)), (1, .inl (.int a1)), (2, .inl (.int a2))] [.inl (.ref 15)] (hM nf ns [] s z0) (0, 3380)) := fun f n => rfl
theorem i2_a (nf ns : Nat) (s t : KS) (a1 a2 : Int32) (f n : Nat) : g_X2_init n (f + 58) 0 [(0, .inl (.ref 15)), (1, .inl (.int a1)), (2, .inl (.int a2))] [] (kH nf ns [oX2] s) (13, 3900) = cond (decide ((2 : Int32) ≤ a1)) (g_X2_init n f 119 [(0, .inl (.ref 15)), (1, .inl (.int a1)), (2, .inl (.int a2))] [.inl (.ref 15)] (hM nf ns [] s z0) (0, 3380)) (g_X2_init n f 115 [(0, .inl (.ref 15)), (1, .inl (.int a1)), (2, .inl (.int a2))] [.inl (.ref 15)] (hM nf ns [] s z0) (0, 3380)) := by
  refine (i2_s nf ns s t a1 a2 (f + 56) n).trans ?_
  refine (i2_s0 nf ns s t a1 a2 (f + 52) n).trans ?_
  refine (i2_s1 nf ns s t a1 a2 (f + 48) n).trans ?_
  refine (i2_s2 nf ns s t a1 a2 (f + 44) n).trans ?_
  refine (i2_s3 nf ns s t a1 a2 (f + 40) n).trans ?_
  refine (i2_s4 nf ns s t a1 a2 (f + 36) n).trans ?_
  refine (i2_s5 nf ns s t a1 a2 (f + 32) n).trans ?_
  refine (i2_s6 nf ns s t a1 a2 (f + 28) n).trans ?_
  refine (i2_s7 nf ns s t a1 a2 (f + 24) n).trans ?_
  refine (i2_s8 nf ns s t a1 a2 (f + 20) n).trans ?_
  refine (i2_s9 nf ns s t a1 a2 (f + 16) n).trans ?_
  refine (i2_s10 nf ns s t a1 a2 (f + 12) n).trans ?_
  refine (i2_s11 nf ns s t a1 a2 (f + 8) n).trans ?_
  refine (i2_s12 nf ns s t a1 a2 (f + 4) n).trans ?_
  exact i2_t nf ns s t a1 a2 f n
set_option maxRecDepth 20000 in
theorem i2_b (nf ns : Nat) (s t : KS) (a1 a2 : Int32) : ∀ f n : Nat, g_X2_init n (f + 6) 115 [(0, .inl (.ref 15)), (1, .inl (.int a1)), (2, .inl (.int a2))] [.inl (.ref 15)] (hM nf ns [] s t) (0, 3380) = cond (decide ((0 : Int32) ≤ a2)) (g_X2_init n f 143 [(0, .inl (.ref 15)), (1, .inl (.int a1)), (2, .inl (.int a2))] [.inl (.ref 15)] (hM nf ns [] s (kS t 15 1 2)) (0, 3380)) (g_X2_init n f 139 [(0, .inl (.ref 15)), (1, .inl (.int a1)), (2, .inl (.int a2))] [.inl (.ref 15)] (hM nf ns [] s (kS t 15 1 2)) (0, 3380)) := fun f n => rfl
set_option maxRecDepth 20000 in
theorem i2_c (nf ns : Nat) (s t : KS) (a1 a2 : Int32) : ∀ f n : Nat, g_X2_init n (f + 3) 119 [(0, .inl (.ref 15)), (1, .inl (.int a1)), (2, .inl (.int a2))] [.inl (.ref 15)] (hM nf ns [] s t) (0, 3380) = cond (decide (a1 ≤ (10 : Int32))) (g_X2_init n f 130 [(0, .inl (.ref 15)), (1, .inl (.int a1)), (2, .inl (.int a2))] [.inl (.ref 15)] (hM nf ns [] s t) (0, 3380)) (g_X2_init n f 125 [(0, .inl (.ref 15)), (1, .inl (.int a1)), (2, .inl (.int a2))] [.inl (.ref 15)] (hM nf ns [] s t) (0, 3380)) := fun f n => rfl
set_option maxRecDepth 20000 in
theorem i2_d (nf ns : Nat) (s t : KS) (a1 a2 : Int32) : ∀ f n : Nat, g_X2_init n (f + 6) 125 [(0, .inl (.ref 15)), (1, .inl (.int a1)), (2, .inl (.int a2))] [.inl (.ref 15)] (hM nf ns [] s t) (0, 3380) = cond (decide ((0 : Int32) ≤ a2)) (g_X2_init n f 143 [(0, .inl (.ref 15)), (1, .inl (.int a1)), (2, .inl (.int a2))] [.inl (.ref 15)] (hM nf ns [] s (kS t 15 1 10)) (0, 3380)) (g_X2_init n f 139 [(0, .inl (.ref 15)), (1, .inl (.int a1)), (2, .inl (.int a2))] [.inl (.ref 15)] (hM nf ns [] s (kS t 15 1 10)) (0, 3380)) := fun f n => rfl
set_option maxRecDepth 20000 in
theorem i2_e (nf ns : Nat) (s t : KS) (a1 a2 : Int32) : ∀ f n : Nat, g_X2_init n (f + 5) 130 [(0, .inl (.ref 15)), (1, .inl (.int a1)), (2, .inl (.int a2))] [.inl (.ref 15)] (hM nf ns [] s t) (0, 3380) = cond (decide ((0 : Int32) ≤ a2)) (g_X2_init n f 143 [(0, .inl (.ref 15)), (1, .inl (.int a1)), (2, .inl (.int a2))] [.inl (.ref 15)] (hM nf ns [] s (kS t 15 1 a1)) (0, 3380)) (g_X2_init n f 139 [(0, .inl (.ref 15)), (1, .inl (.int a1)), (2, .inl (.int a2))] [.inl (.ref 15)] (hM nf ns [] s (kS t 15 1 a1)) (0, 3380)) := fun f n => rfl
set_option maxRecDepth 20000 in
theorem i2_f (nf ns : Nat) (s t : KS) (a1 a2 : Int32) : ∀ f n : Nat, g_X2_init n (f + 5) 139 [(0, .inl (.ref 15)), (1, .inl (.int a1)), (2, .inl (.int a2))] [.inl (.ref 15)] (hM nf ns [] s t) (0, 3380) = (g_X2_init n f 160 [(0, .inl (.ref 15)), (1, .inl (.int a1)), (2, .inl (.int a2)), (3, .inl (.int 0))] [] (hM nf ns [] s (kS t 15 2 0)) (0, 3380)) := fun f n => rfl
set_option maxRecDepth 20000 in
theorem i2_g (nf ns : Nat) (s t : KS) (a1 a2 : Int32) : ∀ f n : Nat, g_X2_init n (f + 3) 143 [(0, .inl (.ref 15)), (1, .inl (.int a1)), (2, .inl (.int a2))] [.inl (.ref 15)] (hM nf ns [] s t) (0, 3380) = cond (decide (a2 ≤ (20 : Int32))) (g_X2_init n f 154 [(0, .inl (.ref 15)), (1, .inl (.int a1)), (2, .inl (.int a2))] [.inl (.ref 15)] (hM nf ns [] s t) (0, 3380)) (g_X2_init n f 149 [(0, .inl (.ref 15)), (1, .inl (.int a1)), (2, .inl (.int a2))] [.inl (.ref 15)] (hM nf ns [] s t) (0, 3380)) := fun f n => rfl
set_option maxRecDepth 20000 in
theorem i2_h (nf ns : Nat) (s t : KS) (a1 a2 : Int32) : ∀ f n : Nat, g_X2_init n (f + 5) 149 [(0, .inl (.ref 15)), (1, .inl (.int a1)), (2, .inl (.int a2))] [.inl (.ref 15)] (hM nf ns [] s t) (0, 3380) = (g_X2_init n f 160 [(0, .inl (.ref 15)), (1, .inl (.int a1)), (2, .inl (.int a2)), (3, .inl (.int 0))] [] (hM nf ns [] s (kS t 15 2 20)) (0, 3380)) := fun f n => rfl
set_option maxRecDepth 20000 in
theorem i2_i (nf ns : Nat) (s t : KS) (a1 a2 : Int32) : ∀ f n : Nat, g_X2_init n (f + 4) 154 [(0, .inl (.ref 15)), (1, .inl (.int a1)), (2, .inl (.int a2))] [.inl (.ref 15)] (hM nf ns [] s t) (0, 3380) = (g_X2_init n f 160 [(0, .inl (.ref 15)), (1, .inl (.int a1)), (2, .inl (.int a2)), (3, .inl (.int 0))] [] (hM nf ns [] s (kS t 15 2 a2)) (0, 3380)) := fun f n => rfl
theorem i2_cl {nf ns : Nat} {s : KS} (a1 a2 : Int32) (f n : Nat) : ∃ f', f ≤ f' ∧ g_X2_init n (f + 75) 0 [(0, .inl (.ref 15)), (1, .inl (.int a1)), (2, .inl (.int a2))] [] (kH nf ns [oX2] s) (13, 3900) = g_X2_init n f' 160 [(0, .inl (.ref 15)), (1, .inl (.int a1)), (2, .inl (.int a2)), (3, .inl (.int 0))] [] (hM nf ns [] s (kS (kS z0 15 1 (cl a1 2 10)) 15 2 (cl a2 0 20))) (0, 3380) := by
  have second : ∀ (t : KS) (f : Nat), ∃ f', f ≤ f' ∧ cond (decide ((0 : Int32) ≤ a2)) (g_X2_init n (f + 8) 143 [(0, .inl (.ref 15)), (1, .inl (.int a1)), (2, .inl (.int a2))] [.inl (.ref 15)] (hM nf ns [] s t) (0, 3380)) (g_X2_init n (f + 8) 139 [(0, .inl (.ref 15)), (1, .inl (.int a1)), (2, .inl (.int a2))] [.inl (.ref 15)] (hM nf ns [] s t) (0, 3380)) = g_X2_init n f' 160 [(0, .inl (.ref 15)), (1, .inl (.int a1)), (2, .inl (.int a2)), (3, .inl (.int 0))] [] (hM nf ns [] s (kS t 15 2 (cl a2 0 20))) (0, 3380) := fun t f => by
    rw [cl_s]
    by_cases h : (0 : Int32) ≤ a2
    · rw [decide_eq_true h, cond_true, if_pos h]
      by_cases h2 : a2 ≤ 20
      · refine ⟨f + 1, by omega, ?_⟩
        rw [show f + 8 = (f + 5) + 3 by omega]
        refine (i2_g nf ns s t a1 a2 (f + 5) n).trans ?_
        rw [decide_eq_true h2, cond_true, if_pos h2, show f + 5 = (f + 1) + 4 by omega]
        exact i2_i nf ns s t a1 a2 (f + 1) n
      · refine ⟨f + 0, by omega, ?_⟩
        rw [show f + 8 = (f + 5) + 3 by omega]
        refine (i2_g nf ns s t a1 a2 (f + 5) n).trans ?_
        rw [decide_eq_false h2, cond_false, if_neg h2, show f + 5 = (f + 0) + 5 by omega]
        exact i2_h nf ns s t a1 a2 (f + 0) n
    · refine ⟨f + 3, by omega, ?_⟩
      rw [decide_eq_false h, cond_false, if_neg h, show f + 8 = (f + 3) + 5 by omega]
      exact i2_f nf ns s t a1 a2 (f + 3) n
  rw [show f + 75 = (f + 17) + 58 by omega, cl_f]
  by_cases h : (2 : Int32) ≤ a1
  · by_cases h2 : a1 ≤ 10
    · obtain ⟨f', q1, q2⟩ := second (kS z0 15 1 a1) (f + 1)
      refine ⟨f', by omega, ?_⟩
      refine (i2_a nf ns s z0 a1 a2 (f + 17) n).trans ?_
      rw [decide_eq_true h, cond_true, if_pos h, if_pos h2, show f + 17 = (f + 14) + 3 by omega]
      refine (i2_c nf ns s z0 a1 a2 (f + 14) n).trans ?_
      rw [decide_eq_true h2, cond_true, show f + 14 = (f + 1 + 8) + 5 by omega]
      refine (i2_e nf ns s z0 a1 a2 (f + 1 + 8) n).trans q2
    · obtain ⟨f', q1, q2⟩ := second (kS z0 15 1 10) (f + 0)
      refine ⟨f', by omega, ?_⟩
      refine (i2_a nf ns s z0 a1 a2 (f + 17) n).trans ?_
      rw [decide_eq_true h, cond_true, if_pos h, if_neg h2, show f + 17 = (f + 14) + 3 by omega]
      refine (i2_c nf ns s z0 a1 a2 (f + 14) n).trans ?_
      rw [decide_eq_false h2, cond_false, show f + 14 = (f + 0 + 8) + 6 by omega]
      refine (i2_d nf ns s z0 a1 a2 (f + 0 + 8) n).trans q2
  · obtain ⟨f', q1, q2⟩ := second (kS z0 15 1 2) (f + 3)
    refine ⟨f', by omega, ?_⟩
    refine (i2_a nf ns s z0 a1 a2 (f + 17) n).trans ?_
    rw [decide_eq_false h, cond_false, if_neg h, show f + 17 = (f + 3 + 8) + 6 by omega]
    refine (i2_b nf ns s z0 a1 a2 (f + 3 + 8) n).trans q2
set_option maxRecDepth 20000 in
theorem i2_h25 (nf ns : Nat) (s t : KS) (p : Int32) : ∀ f n : Nat, g_X2_init n (f + 3) 160 [(0, .inl (.ref 15)), (3, .inl (.int p))] [] (hM nf ns [] s t) (0, 3380) = cond (decide ((70 : Int32) ≤ p)) (g_X2_init n f 179 [(0, .inl (.ref 15)), (3, .inl (.int p))] [] (hM nf ns [] s t) (0, 3380)) (g_X2_init n f 166 [(0, .inl (.ref 15)), (3, .inl (.int p))] [] (hM nf ns [] s t) (0, 3380)) := fun f n => rfl
set_option maxRecDepth 20000 in
theorem i2_b25 (nf ns : Nat) (s t : KS) (p : Int32) : ∀ f n : Nat, g_X2_init n (f + 7) 166 [(0, .inl (.ref 15)), (3, .inl (.int p))] [] (hM nf ns [] s t) (0, 3380) = cond (am_in p 70) (j_X2_init n 160 [(0, .inl (.ref 15)), (3, .inl (.int (p + 1)))] [] (hM nf ns [] s (kS t 25 p.toNatClampNeg (-1))) (0, 3380)) none := fun f n => rfl
def mV25 (s : KS) (g : Nat → Int32) : KS := (va_up s.1 25 g, s.2)
theorem i2_m25 {nf ns : Nat} {s : KS} : ∀ (k i n f : Nat) (t : KS), i + k = 70 → ∃ f', min f 900 ≤ f' ∧ g_X2_init (k + n) (f + 10) 160 [(0, .inl (.ref 15)), (3, .inl (.int (nn i)))] [] (hM nf ns [] s t) (0, 3380) = g_X2_init n f' 179 [(0, .inl (.ref 15)), (3, .inl (.int (nn 70)))] [] (hM nf ns [] s (mV25 t (fS32 (t.1 25) i k (-1)))) (0, 3380)
  | 0, i, n, f, t, h1 => by
    refine ⟨f + 7, by omega, ?_⟩
    rw [show 0 + n = n by omega, show f + 10 = (f + 7) + 3 by omega]
    refine (i2_h25 nf ns s t (nn i) (f + 7) n).trans ?_
    rw [show decide ((70 : Int32) ≤ nn i) = true from decide_eq_true (by rw [show (70 : Int32) = nn 70 from rfl, nn_le (by omega) (by omega)]; omega), cond_true, fS32_0, show i = 70 by omega]
    rfl
  | k + 1, i, n, f, t, h1 => by
    obtain ⟨f', a0, a1⟩ := i2_m25 (nf := nf) (ns := ns) (s := s) k (i + 1) n 990 (kS t 25 i (-1)) (by omega)
    refine ⟨f', by omega, ?_⟩
    rw [show f + 10 = (f + 7) + 3 by omega]
    refine (i2_h25 nf ns s t (nn i) (f + 7) (k + 1 + n)).trans ?_
    rw [show decide ((70 : Int32) ≤ nn i) = false from decide_eq_false (by rw [show (70 : Int32) = nn 70 from rfl, nn_le (by omega) (by omega)]; omega), cond_false]
    refine (i2_b25 nf ns s t (nn i) f (k + 1 + n)).trans ?_
    rw [nn_in (by omega), decide_eq_true (show i < 70 by omega), cond_true, nn_tn (by omega), nn_p1, show k + 1 + n = (k + n) + 1 by omega]
    refine (j_X2_init_g (k + n) 160 _ _ _ _).trans (a1.trans ?_)
    rw [← fS32_s]
    rfl
set_option maxRecDepth 20000 in
theorem i2_h26 (nf ns : Nat) (s t : KS) (p : Int32) : ∀ f n : Nat, g_X2_init n (f + 3) 181 [(0, .inl (.ref 15)), (3, .inl (.int p))] [] (hM nf ns [] s t) (0, 3380) = cond (decide ((10 : Int32) ≤ p)) (g_X2_init n f 200 [(0, .inl (.ref 15)), (3, .inl (.int p))] [] (hM nf ns [] s t) (0, 3380)) (g_X2_init n f 187 [(0, .inl (.ref 15)), (3, .inl (.int p))] [] (hM nf ns [] s t) (0, 3380)) := fun f n => rfl
set_option maxRecDepth 20000 in
theorem i2_b26 (nf ns : Nat) (s t : KS) (p : Int32) : ∀ f n : Nat, g_X2_init n (f + 7) 187 [(0, .inl (.ref 15)), (3, .inl (.int p))] [] (hM nf ns [] s t) (0, 3380) = cond (am_in p 10) (j_X2_init n 181 [(0, .inl (.ref 15)), (3, .inl (.int (p + 1)))] [] (hM nf ns [] s (kS t 26 p.toNatClampNeg (-1))) (0, 3380)) none := fun f n => rfl
def mV26 (s : KS) (g : Nat → Int32) : KS := (va_up s.1 26 g, s.2)
theorem i2_m26 {nf ns : Nat} {s : KS} : ∀ (k i n f : Nat) (t : KS), i + k = 10 → ∃ f', min f 900 ≤ f' ∧ g_X2_init (k + n) (f + 10) 181 [(0, .inl (.ref 15)), (3, .inl (.int (nn i)))] [] (hM nf ns [] s t) (0, 3380) = g_X2_init n f' 200 [(0, .inl (.ref 15)), (3, .inl (.int (nn 10)))] [] (hM nf ns [] s (mV26 t (fS32 (t.1 26) i k (-1)))) (0, 3380)
  | 0, i, n, f, t, h1 => by
    refine ⟨f + 7, by omega, ?_⟩
    rw [show 0 + n = n by omega, show f + 10 = (f + 7) + 3 by omega]
    refine (i2_h26 nf ns s t (nn i) (f + 7) n).trans ?_
    rw [show decide ((10 : Int32) ≤ nn i) = true from decide_eq_true (by rw [show (10 : Int32) = nn 10 from rfl, nn_le (by omega) (by omega)]; omega), cond_true, fS32_0, show i = 10 by omega]
    rfl
  | k + 1, i, n, f, t, h1 => by
    obtain ⟨f', a0, a1⟩ := i2_m26 (nf := nf) (ns := ns) (s := s) k (i + 1) n 990 (kS t 26 i (-1)) (by omega)
    refine ⟨f', by omega, ?_⟩
    rw [show f + 10 = (f + 7) + 3 by omega]
    refine (i2_h26 nf ns s t (nn i) (f + 7) (k + 1 + n)).trans ?_
    rw [show decide ((10 : Int32) ≤ nn i) = false from decide_eq_false (by rw [show (10 : Int32) = nn 10 from rfl, nn_le (by omega) (by omega)]; omega), cond_false]
    refine (i2_b26 nf ns s t (nn i) f (k + 1 + n)).trans ?_
    rw [nn_in (by omega), decide_eq_true (show i < 10 by omega), cond_true, nn_tn (by omega), nn_p1, show k + 1 + n = (k + n) + 1 by omega]
    refine (j_X2_init_g (k + n) 181 _ _ _ _).trans (a1.trans ?_)
    rw [← fS32_s]
    rfl
set_option maxRecDepth 20000 in
theorem i2_h22 (nf ns : Nat) (s t : KS) (p : Int32) : ∀ f n : Nat, g_X2_init n (f + 3) 202 [(0, .inl (.ref 15)), (3, .inl (.int p))] [] (hM nf ns [] s t) (0, 3380) = cond (decide ((54 : Int32) ≤ p)) (g_X2_init n f 221 [(0, .inl (.ref 15)), (3, .inl (.int p))] [] (hM nf ns [] s t) (0, 3380)) (g_X2_init n f 208 [(0, .inl (.ref 15)), (3, .inl (.int p))] [] (hM nf ns [] s t) (0, 3380)) := fun f n => rfl
set_option maxRecDepth 20000 in
theorem i2_b22 (nf ns : Nat) (s t : KS) (p : Int32) : ∀ f n : Nat, g_X2_init n (f + 7) 208 [(0, .inl (.ref 15)), (3, .inl (.int p))] [] (hM nf ns [] s t) (0, 3380) = cond (am_in p 54) (j_X2_init n 202 [(0, .inl (.ref 15)), (3, .inl (.int (p + 1)))] [] (hM nf ns [] s (kS t 22 p.toNatClampNeg (-1))) (0, 3380)) none := fun f n => rfl
def mV22 (s : KS) (g : Nat → Int32) : KS := (va_up s.1 22 g, s.2)
theorem i2_m22 {nf ns : Nat} {s : KS} : ∀ (k i n f : Nat) (t : KS), i + k = 54 → ∃ f', min f 900 ≤ f' ∧ g_X2_init (k + n) (f + 10) 202 [(0, .inl (.ref 15)), (3, .inl (.int (nn i)))] [] (hM nf ns [] s t) (0, 3380) = g_X2_init n f' 221 [(0, .inl (.ref 15)), (3, .inl (.int (nn 54)))] [] (hM nf ns [] s (mV22 t (fS32 (t.1 22) i k (-1)))) (0, 3380)
  | 0, i, n, f, t, h1 => by
    refine ⟨f + 7, by omega, ?_⟩
    rw [show 0 + n = n by omega, show f + 10 = (f + 7) + 3 by omega]
    refine (i2_h22 nf ns s t (nn i) (f + 7) n).trans ?_
    rw [show decide ((54 : Int32) ≤ nn i) = true from decide_eq_true (by rw [show (54 : Int32) = nn 54 from rfl, nn_le (by omega) (by omega)]; omega), cond_true, fS32_0, show i = 54 by omega]
    rfl
  | k + 1, i, n, f, t, h1 => by
    obtain ⟨f', a0, a1⟩ := i2_m22 (nf := nf) (ns := ns) (s := s) k (i + 1) n 990 (kS t 22 i (-1)) (by omega)
    refine ⟨f', by omega, ?_⟩
    rw [show f + 10 = (f + 7) + 3 by omega]
    refine (i2_h22 nf ns s t (nn i) (f + 7) (k + 1 + n)).trans ?_
    rw [show decide ((54 : Int32) ≤ nn i) = false from decide_eq_false (by rw [show (54 : Int32) = nn 54 from rfl, nn_le (by omega) (by omega)]; omega), cond_false]
    refine (i2_b22 nf ns s t (nn i) f (k + 1 + n)).trans ?_
    rw [nn_in (by omega), decide_eq_true (show i < 54 by omega), cond_true, nn_tn (by omega), nn_p1, show k + 1 + n = (k + n) + 1 by omega]
    refine (j_X2_init_g (k + n) 202 _ _ _ _).trans (a1.trans ?_)
    rw [← fS32_s]
    rfl
set_option maxRecDepth 20000 in
theorem i2_h0 (nf ns : Nat) (s t : KS) (a1 a2 p : Int32) : ∀ f n : Nat, g_X2_init n (f + 3) 160 [(0, .inl (.ref 15)), (1, .inl (.int a1)), (2, .inl (.int a2)), (3, .inl (.int p))] [] (hM nf ns [] s t) (0, 3380) = cond (decide ((70 : Int32) ≤ p)) (g_X2_init n f 179 [(0, .inl (.ref 15)), (3, .inl (.int p))] [] (hM nf ns [] s t) (0, 3380)) (g_X2_init n f 166 [(0, .inl (.ref 15)), (3, .inl (.int p))] [] (hM nf ns [] s t) (0, 3380)) := fun f n => rfl
set_option maxRecDepth 20000 in
theorem i2_x1 (nf ns : Nat) (s t : KS) (p : Int32) : ∀ f n : Nat, g_X2_init n (f + 2) 179 [(0, .inl (.ref 15)), (3, .inl (.int p))] [] (hM nf ns [] s t) (0, 3380) = (g_X2_init n f 181 [(0, .inl (.ref 15)), (3, .inl (.int 0))] [] (hM nf ns [] s t) (0, 3380)) := fun f n => rfl
set_option maxRecDepth 20000 in
theorem i2_x2 (nf ns : Nat) (s t : KS) (p : Int32) : ∀ f n : Nat, g_X2_init n (f + 2) 200 [(0, .inl (.ref 15)), (3, .inl (.int p))] [] (hM nf ns [] s t) (0, 3380) = (g_X2_init n f 202 [(0, .inl (.ref 15)), (3, .inl (.int 0))] [] (hM nf ns [] s t) (0, 3380)) := fun f n => rfl
set_option maxRecDepth 20000 in
theorem i2_y1 (nf ns : Nat) (s t : KS) (p : Int32) : ∀ f n : Nat, g_X2_init n (f + 5) 221 [(0, .inl (.ref 15)), (3, .inl (.int p))] [] (hM nf ns [] s t) (0, 3380) = (g_X2_init n f 228 [(0, .inl (.ref 15)), (3, .inl (.int p))] [] (hM nf ns [] s (kS t 16 0 1)) (0, 3380)) := fun f n => rfl
set_option maxRecDepth 20000 in
theorem i2_y2 (nf ns : Nat) (s t : KS) (p : Int32) : ∀ f n : Nat, g_X2_init n (f + 5) 228 [(0, .inl (.ref 15)), (3, .inl (.int p))] [] (hM nf ns [] s t) (0, 3380) = (g_X2_init n f 235 [(0, .inl (.ref 15)), (3, .inl (.int p))] [] (hM nf ns [] s (kS t 18 0 (-1))) (0, 3380)) := fun f n => rfl
set_option maxRecDepth 20000 in
theorem i2_y3 (nf ns : Nat) (s t : KS) (p : Int32) : ∀ f n : Nat, g_X2_init n (f + 4) 235 [(0, .inl (.ref 15)), (3, .inl (.int p))] [] (hM nf ns [] s t) (0, 3380) = am_rv (F_X2_begin [.inl (.ref 15), .inl (.int 0), .inl (.int 0)] (hM nf ns [] s t)) (fun h => g_X2_init n f 241 [(0, .inl (.ref 15)), (3, .inl (.int p))] [] h (0, 3380)) (fun x h => some (.inr x, h)) := fun f n => rfl
set_option maxRecDepth 20000 in
theorem i2_z (nf ns : Nat) (s t : KS) (p : Int32) : ∀ f n : Nat, g_X2_init n (f + 1) 241 [(0, .inl (.ref 15)), (3, .inl (.int p))] [] (hM nf ns [] s t) (0, 3380) = some (.inl none, (hM nf ns [] s t)) := fun f n => rfl
/-- a new reference, before its first program -/
def MB (nf ns : Nat) (t : KS) : Prop :=
  t.1 15 0 = 0 ∧ t.1 15 1 = nn nf ∧ t.1 15 2 = nn ns ∧ t.1 15 16 = 0 ∧ t.1 15 17 = 0 ∧ t.1 15 18 = 0 ∧ t.1 15 19 = 0 ∧ t.1 16 = upd (fun _ => 0) 0 1 ∧ t.1 18 0 = -1 ∧ t.1 24 = (fun _ => 0) ∧ t.1 28 = (fun _ => 0) ∧ (∀ j, j < 54 → t.1 22 j = -1) ∧ (∀ j, j < 70 → t.1 25 j = -1) ∧ (∀ j, j < 10 → t.1 26 j = -1)
theorem init2_p {nf ns : Nat} {s : KS} {a1 a2 : Int32} (e1 : cl a1 2 10 = nn nf) (e2 : cl a2 0 20 = nn ns) : ∃ t, MB nf ns t ∧ ∀ t', p_X2_begin (nn 0) (nn 0) t = some (.inl none, t') → F_X2_init [.inl (.ref 15), .inl (.int a1), .inl (.int a2)] (kH nf ns [oX2] s) = some (.inl none, hM nf ns [] s t') := by
  obtain ⟨f1, p1, q1⟩ := i2_cl (nf := nf) (ns := ns) (s := s) a1 a2 925 399
  rw [e1, e2] at q1
  obtain ⟨f2, p2, q2⟩ := i2_m25 (nf := nf) (ns := ns) (s := s) 70 0 329 (f1 - 10) (kS (kS z0 15 1 (nn nf)) 15 2 (nn ns)) (by omega)
  generalize hA : mV25 (kS (kS z0 15 1 (nn nf)) 15 2 (nn ns)) (fS32 ((kS (kS z0 15 1 (nn nf)) 15 2 (nn ns)).1 25) 0 70 (-1)) = tA at q2
  obtain ⟨f3, p3, q3⟩ := i2_m26 (nf := nf) (ns := ns) (s := s) 10 0 319 (f2 - 12) tA (by omega)
  generalize hB : mV26 tA (fS32 (tA.1 26) 0 10 (-1)) = tB at q3
  obtain ⟨f4, p4, q4⟩ := i2_m22 (nf := nf) (ns := ns) (s := s) 54 0 265 (f3 - 12) tB (by omega)
  generalize hC : mV22 tB (fS32 (tB.1 22) 0 54 (-1)) = tC at q4
  have cA : ∀ d, d ≠ 25 → tA.1 d = (kS (kS z0 15 1 (nn nf)) 15 2 (nn ns)).1 d := fun d hd => by rw [← hA]; exact if_neg hd
  have cB : ∀ d, d ≠ 26 → tB.1 d = tA.1 d := fun d hd => by rw [← hB]; exact if_neg hd
  have cC : ∀ d, d ≠ 22 → tC.1 d = tB.1 d := fun d hd => by rw [← hC]; exact if_neg hd
  have d15 : tC.1 15 = upd (upd (fun _ => 0) 1 (nn nf)) 2 (nn ns) := by rw [cC 15 (by omega), cB 15 (by omega), cA 15 (by omega)]; rfl
  have dz : ∀ d, d ≠ 15 → d ≠ 22 → d ≠ 25 → d ≠ 26 → tC.1 d = fun _ => 0 := fun d h1 h2 h3 h4 => by rw [cC d h2, cB d h4, cA d h3, kS_m h1, kS_m h1]; rfl
  refine ⟨kS (kS tC 16 0 1) 18 0 (-1), ⟨?_, ?_, ?_, ?_, ?_, ?_, ?_, ?_, ?_, ?_, ?_, fun j hj => ?_, fun j hj => ?_, fun j hj => ?_⟩, fun t' ht => ?_⟩
  · show tC.1 15 0 = 0
    rw [d15]; rfl
  · show tC.1 15 1 = nn nf
    rw [d15]; rfl
  · show tC.1 15 2 = nn ns
    rw [d15]; rfl
  · show tC.1 15 16 = 0
    rw [d15]; rfl
  · show tC.1 15 17 = 0
    rw [d15]; rfl
  · show tC.1 15 18 = 0
    rw [d15]; rfl
  · show tC.1 15 19 = 0
    rw [d15]; rfl
  · show upd (tC.1 16) 0 1 = _
    rw [dz 16 (by omega) (by omega) (by omega) (by omega)]
  · show upd (tC.1 18) 0 (-1) 0 = -1
    exact upd_a _ _ _
  · show tC.1 24 = _
    exact dz 24 (by omega) (by omega) (by omega) (by omega)
  · show tC.1 28 = _
    exact dz 28 (by omega) (by omega) (by omega) (by omega)
  · show tC.1 22 j = -1
    rw [← hC]
    show fS32 (tB.1 22) 0 54 (-1) j = -1
    exact if_pos (by omega)
  · show tC.1 25 j = -1
    rw [cC 25 (by omega), cB 25 (by omega), ← hA]
    show fS32 _ 0 70 (-1) j = -1
    exact if_pos (by omega)
  · show tC.1 26 j = -1
    rw [cC 26 (by omega), ← hB]
    show fS32 (tA.1 26) 0 10 (-1) j = -1
    exact if_pos (by omega)
  · refine (show _ = g_X2_init 399 1000 0 [(0, .inl (.ref 15)), (1, .inl (.int a1)), (2, .inl (.int a2))] [] (kH nf ns [oX2] s) (13, 3900) from am_fn_g (T := T_X2_init) (X := X_X2_init) (nL := 4) (rt := none) (rs := am_rs0) (hs := []) (kp := [(160, [0, 3]), (181, [0, 3]), (202, [0, 3])]) (n := 399) (b := (13, 3900)) (as := [.inl (.ref 15), .inl (.int a1), .inl (.int a2)]) (h := kH nf ns [oX2] s) (Nat.le_of_ble_eq_true rfl)).trans ?_
    refine (show _ = _ from q1).trans ?_
    have z1 : f1 = (f1 - 3) + 3 := by omega
    rw [z1]
    refine (i2_h0 nf ns s _ a1 a2 0 (f1 - 3) 399).trans ?_
    refine (i2_h25 nf ns s _ 0 (f1 - 3) 399).symm.trans ?_
    rw [show f1 - 3 + 3 = (f1 - 10) + 10 by omega]
    refine (show _ = _ from q2).trans ?_
    rw [show f2 = (f2 - 12 + 10) + 2 by omega]
    refine (i2_x1 nf ns s tA (nn 70) (f2 - 12 + 10) 329).trans ?_
    refine (show _ = _ from q3).trans ?_
    rw [show f3 = (f3 - 12 + 10) + 2 by omega]
    refine (i2_x2 nf ns s tB (nn 10) (f3 - 12 + 10) 319).trans ?_
    refine (show _ = _ from q4).trans ?_
    rw [show f4 = (((f4 - 15 + 1) + 4) + 5) + 5 by omega]
    refine (i2_y1 nf ns s tC (nn 54) (((f4 - 15 + 1) + 4) + 5) 265).trans ?_
    refine (i2_y2 nf ns s _ (nn 54) ((f4 - 15 + 1) + 4) 265).trans ?_
    refine (i2_y3 nf ns s _ (nn 54) (f4 - 15 + 1) 265).trans ?_
    refine (am_rv_v ((e_X2_begin 0 0 (kS (kS tC 16 0 1) 18 0 (-1))).trans (congrArg (am_lf _) ht))).trans ?_
    exact i2_z nf ns s t' (nn 54) (f4 - 15) 265
