theorem nn_e2 {a : Nat} (h : a < 2147483648) : (nn a = 2) = (a = 2) := nn_eq (a := a) (b := 2) h (by omega)
theorem nn_e3 {a : Nat} (h : a < 2147483648) : (nn a = 3) = (a = 3) := nn_eq (a := a) (b := 3) h (by omega)
theorem ag_ok {nf ns : Nat} {cs : List (Nat × Int32)} {a b : KR} {s' t' : KS} {x : Int32} (R : RR nf ns s' t') (h1 : a = some (.inl (some x), s')) (h2 : b = some (.inl (some x), t')) (h3 : t'.1 15 0 = 0) : AG nf ns cs a b := ⟨s', t', R, Or.inl ⟨x, h1, h2, h3⟩⟩
theorem ag_ex {nf ns : Nat} {cs : List (Nat × Int32)} {a b : KR} {s' t' : KS} {e : Nat} {c y : Int32} (R : RR nf ns s' t') (hm : (e, c) ∈ cs) (h1 : a = some (.inr e, s')) (h2 : b = some (.inl (some y), t')) (h3 : t'.1 15 0 = c) : AG nf ns cs a b := ⟨s', t', R, Or.inr ⟨e, c, y, hm, h1, h2, h3⟩⟩
theorem f15 (t : KS) (x : Int32) : (kS t 15 0 x).1 15 0 = x := rfl
theorem one_le0 : ((1 : Int32) ≤ 0) = False := by decide
theorem two_le0 : ((2 : Int32) ≤ 0) = False := by decide
theorem thr_le0 : ((3 : Int32) ≤ 0) = False := by decide
theorem seek_p {x y : Int32} {t : KS} (h : x < 0 ∨ (¬ x < 0 ∧ nn 6 ≤ x)) : p_X2_seek x y t = some (.inl (some (-1)), kS t 15 0 1) := by
  rw [p_X2_seek, show p_X2_out x 6 t = _ from out_out h]
  simp [kbi, f15, one_le0]
theorem seek_a {p : Nat} {y : Int32} {t : KS} (hp : p < 6) (h : y < 0 ∨ (¬ y < 0 ∧ nn 44 ≤ y)) : p_X2_seek (nn p) y t = some (.inl (some (-1)), kS t 15 0 1) := by
  rw [p_X2_seek, show p_X2_out (nn p) 6 t = _ from out_in (n := 6) hp (by omega)]
  simp only [kbi, decide_true, Bool.not_true, cond_false]
  rw [show p_X2_out y 44 t = _ from out_out h]
  simp [kbi, f15, one_le0]
theorem seek_ru {p a : Nat} {t : KS} (hp : p < 6) (ha : a < 44) (h : ¬ t.1 16 p = 1) : p_X2_seek (nn p) (nn a) t = some (.inl (some (-1)), kS t 15 0 2) := by
  rw [p_X2_seek, show p_X2_out (nn p) 6 t = _ from out_in (n := 6) hp (by omega)]
  simp only [kbi, decide_true, Bool.not_true, cond_false]
  rw [show p_X2_out (nn a) 44 t = _ from out_in (n := 44) ha (by omega)]
  simp [kbi, nr_no hp h, f15, two_le0]
theorem seek_no {p a : Nat} {t : KS} (hp : p < 6) (ha : a < 44) (h : t.1 16 p = 1) (hg : p_X2_pageOf (nn p) (nn a) t = some (.inl (some (-1)), t)) : p_X2_seek (nn p) (nn a) t = some (.inl (some (-1)), kS t 15 0 3) := by
  rw [p_X2_seek, show p_X2_out (nn p) 6 t = _ from out_in (n := 6) hp (by omega)]
  simp only [kbi, decide_true, Bool.not_true, cond_false]
  rw [show p_X2_out (nn a) 44 t = _ from out_in (n := 44) ha (by omega)]
  simp [kbi, nr_ok hp h, hg, m1_g0, f15, thr_le0]
theorem seek_ok {p a k : Nat} {t : KS} (hp : p < 6) (ha : a < 44) (h : t.1 16 p = 1) (hk : k < 70) (h0 : t.1 15 0 = 0) (hg : p_X2_pageOf (nn p) (nn a) t = some (.inl (some (nn k)), t)) : p_X2_seek (nn p) (nn a) t = some (.inl (some (nn k)), t) := by
  rw [p_X2_seek, show p_X2_out (nn p) 6 t = _ from out_in (n := 6) hp (by omega)]
  simp only [kbi, decide_true, Bool.not_true, cond_false]
  rw [show p_X2_out (nn a) 44 t = _ from out_in (n := 44) ha (by omega)]
  simp (disch := omega) [kbi, nr_ok hp h, hg, nn_g0, h0]
/-- a page is asked for, in class and reference -/
theorem a_seek {nf ns : Nat} {cs : List (Nat × Int32)} {s t : KS} {x y : Int32} {a b : KR} (hc : cs = [(0, 1), (1, 2), (4, 3)]) (R : RR nf ns s t)
    (h1 : p_X1_checkAddress nf ns x y s = some (.inr 0, s) → a = some (.inr 0, s)) (h2 : p_X1_checkAddress nf ns x y s = some (.inr 1, s) → a = some (.inr 1, s))
    (h3 : p_X1_checkAddress nf ns x y s = some (.inl none, s) → p_X1_pageThere nf ns x (y / 4) s = some (.inr 4, s) → a = some (.inr 4, s))
    (h4 : ∀ t', p_X2_seek x y (kS t 15 0 0) = some (.inl (some (-1)), t') → b = some (.inl (some 0), t'))
    (h5 : ∀ (φ : Nat → Nat) (L : Nat → Prop) (P : Nat), RQ nf ns φ L s (kS t 15 0 0) → L P → P < 60 → φ P < 70 → p_X1_checkAddress nf ns x y s = some (.inl none, s) → p_X1_pageThere nf ns x (y / 4) s = some (.inl (some (nn P)), s) → p_X2_seek x y (kS t 15 0 0) = some (.inl (some (nn (φ P))), kS t 15 0 0) → AG nf ns cs a b) : AG nf ns cs a b := by
  rcases split x 6 (by omega) with ⟨p, hp, rfl⟩ | hx
  · rcases split y 44 (by omega) with ⟨ad, ha, rfl⟩ | hy
    · obtain ⟨φ, L, R⟩ := R
      have R0 := rq_f 0 R
      by_cases hr : s.1 1 p = 1
      · have hr' := (rq_run R0 hp hr).1
        rcases page_pair R0 hp hr ha with ⟨_, e1, e2⟩ | ⟨P, lP, hP, hk, _, e1, e2, _⟩
        · exact ag_ex (rr_f 3 (rr_f 0 ⟨φ, L, R⟩)) (hc ▸ List.mem_of_getElem? (i := 2) rfl) (h3 (ca_ok hp ha hr) (by rw [nn_d4 (by omega)]; exact e1)) (h4 _ (seek_no hp ha hr' e2)) rfl
        · exact h5 φ L P R0 lP hP hk (ca_ok hp ha hr) (by rw [nn_d4 (by omega)]; exact e1) (seek_ok hp ha hr' hk rfl e2)
      · have hr' := rq_nrun R0 hp hr
        exact ag_ex (rr_f 2 (rr_f 0 ⟨φ, L, R⟩)) (hc ▸ List.mem_of_getElem? (i := 1) rfl) (h2 (ca_ru hp ha hr)) (h4 _ (seek_ru hp ha hr')) rfl
    · exact ag_ex (rr_f 1 (rr_f 0 R)) (hc ▸ List.mem_of_getElem? (i := 0) rfl) (h1 (ca_a hp hy)) (h4 _ (seek_a hp hy)) rfl
  · exact ag_ex (rr_f 1 (rr_f 0 R)) (hc ▸ List.mem_of_getElem? (i := 0) rfl) (h1 (ca_p hx)) (h4 _ (seek_p hx)) rfl
theorem a_where {nf ns : Nat} {s t : KS} (x y : Int32) (R : RR nf ns s t) : AG nf ns [(0, 1), (1, 2), (4, 3)] (p_X1_where nf ns x y s) (p_X2_where x y t) := by
  refine a_seek (x := x) (y := y) rfl R (fun h => ?_) (fun h => ?_) (fun h h' => ?_) (fun t' h => ?_) (fun φ L P R0 lP hP hk h1 h2 h3 => ?_)
  · rw [p_X1_where, h]; rfl
  · rw [p_X1_where, h]; rfl
  · rw [p_X1_where, h]
    simp only [kbv]
    rw [h']; rfl
  · rw [p_X2_where, h]
    simp [kbi, m1_g0]
  · refine ag_ok (x := s.1 11 P) ⟨φ, L, R0⟩ ?_ ?_ rfl
    · rw [p_X1_where, h1]
      simp only [kbv]
      rw [h2]
      simp (disch := omega) [kbi, p_X0_homeOf, nn_in, nn_tn, hP]
    · rw [p_X2_where, h3]
      simp (disch := omega) only [kbi, nn_g0, nn_in, nn_tn, hk, decide_true, cond_true]
      rw [R0.1.2.2.2.1.2.1 P lP]
theorem a_sharers {nf ns : Nat} {s t : KS} (x y : Int32) (R : RR nf ns s t) : AG nf ns [(0, 1), (1, 2), (4, 3)] (p_X1_sharers nf ns x y s) (p_X2_sharers x y t) := by
  refine a_seek (x := x) (y := y) rfl R (fun h => ?_) (fun h => ?_) (fun h h' => ?_) (fun t' h => ?_) (fun φ L P R0 lP hP hk h1 h2 h3 => ?_)
  · rw [p_X1_sharers, h]; rfl
  · rw [p_X1_sharers, h]; rfl
  · rw [p_X1_sharers, h]
    simp only [kbv]
    rw [h']; rfl
  · rw [p_X2_sharers, h]
    simp [kbi, m1_g0]
  · have ho := (own_pair R0 lP).1
    refine ag_ok (x := s.1 10 P) ⟨φ, L, R0⟩ ?_ ?_ rfl
    · rw [p_X1_sharers, h1]
      simp only [kbv]
      rw [h2]
      simp (disch := omega) [kbi, p_X0_usersOf, nn_in, nn_tn, hP]
    · rw [p_X2_sharers, h3]
      simp (disch := omega) only [kbi, nn_g0, decide_true, cond_true]
      rw [ho]
/-! fact -/
theorem a_fact {nf ns : Nat} {s t : KS} (x y : Int32) (R : RR nf ns s t) : AG nf ns [(0, 1)] (p_X1_fact nf ns x y s) (p_X2_fact x y t) := by
  have R1 := rr_f 1 (rr_f 0 R)
  rcases split x 6 (by omega) with ⟨p, hp, rfl⟩ | hx
  · have o1 : ∀ t, p_X2_out (nn p) 6 t = some (.inl (some 0), t) := fun t => out_in (n := 6) hp (by omega)
    rcases split y 5 (by omega) with ⟨w, hw, rfl⟩ | hy
    · have o2 : ∀ t, p_X2_out (nn w) 5 t = some (.inl (some 0), t) := fun t => out_in (n := 5) hw (by omega)
      have c2 : p_X1_checkRange nf ns (nn w) 0 4 s = _ := cr_in (n := 5) hw (by omega)
      obtain ⟨φ, L, R⟩ := R
      have R0 := rq_f 0 R
      have e16 : t.1 16 p = s.1 1 p := ((R.2.1 p hp).1).symm
      have ka : (kS t 15 0 0).1 = va_up t.1 15 (upd (t.1 15) 0 0) := rfl
      have k16 : (kS t 15 0 0).1 16 p = s.1 1 p := e16
      by_cases hr : s.1 1 p = 1
      · obtain ⟨r1, r2, q, d, e, hq, hd, he1, he3, e1, e2, e3, e4, e5, e6, _⟩ := rq_run R hp hr
        have k17 : (kS t 15 0 0).1 17 p = nn q := e2
        have k20 : (kS t 15 0 0).1 20 p = nn d := e4
        have k21 : (kS t 15 0 0).1 21 p = nn e := e6
        have k18 : (kS t 15 0 0).1 18 p = s.1 3 p := r2.symm
        have nr := nr_ok (t := kS t 15 0 0) hp r1
        have hw' : w = 0 ∨ w = 1 ∨ w = 2 ∨ w = 3 ∨ w = 4 := by omega
        rcases hw' with rfl | rfl | rfl | rfl | rfl
        · refine ag_ok (x := 1) ⟨φ, L, R0⟩ ?_ ?_ rfl
          · simp (disch := omega) [p_X1_fact, cp_in hp, c2, kbv, nn_e0, nn_in, nn_tn, hp, hr]
          · simp (disch := omega) [p_X2_fact, o1, o2, kbi, nn_e0, nn_in, nn_tn, hp, k16, hr]
        · refine ag_ok (x := nn q) ⟨φ, L, R0⟩ ?_ ?_ rfl
          · simp (disch := omega) [p_X1_fact, cp_in hp, c2, kbv, nn_e0, nn_in, nn_tn, hp, hr, e1, nn_e1, nn_e2, nn_e3, nn_toInt]
          · simp (disch := omega) [p_X2_fact, o1, o2, kbi, nn_e0, nn_in, nn_tn, hp, nr, k17, nn_e1, nn_e2, nn_e3]
        · refine ag_ok (x := s.1 3 p) ⟨φ, L, R0⟩ ?_ ?_ rfl
          · simp (disch := omega) [p_X1_fact, cp_in hp, c2, kbv, nn_e0, nn_in, nn_tn, hp, nn_e1, nn_e2, nn_e3]
          · simp (disch := omega) [p_X2_fact, o1, o2, kbi, nn_e0, nn_in, nn_tn, hp, k16, hr, k18, nn_e1, nn_e2, nn_e3]
        · refine ag_ok (x := nn d) ⟨φ, L, R0⟩ ?_ ?_ rfl
          · simp (disch := omega) [p_X1_fact, cp_in hp, c2, kbv, nn_e0, nn_in, nn_tn, hp, hr, e3, nn_e1, nn_e2, nn_e3, nn_toInt]
          · simp (disch := omega) [p_X2_fact, o1, o2, kbi, nn_e0, nn_in, nn_tn, hp, nr, k20, nn_e1, nn_e2, nn_e3]
        · refine ag_ok (x := nn e) ⟨φ, L, R0⟩ ?_ ?_ rfl
          · simp (disch := omega) [p_X1_fact, cp_in hp, c2, kbv, nn_e0, nn_in, nn_tn, hp, hr, e5, nn_e1, nn_e2, nn_e3, nn_toInt]
          · simp (disch := omega) [p_X2_fact, o1, o2, kbi, nn_e0, nn_in, nn_tn, hp, nr, k21, nn_e1, nn_e2, nn_e3]
      · have nr := nr_no (t := kS t 15 0 0) hp (rq_nrun R0 hp hr)
        by_cases h0 : w = 0
        · subst h0
          refine ag_ok (x := s.1 1 p) ⟨φ, L, R0⟩ ?_ ?_ rfl
          · simp (disch := omega) [p_X1_fact, cp_in hp, c2, kbv, nn_e0, nn_in, nn_tn, hp]
          · simp (disch := omega) [p_X2_fact, o1, o2, kbi, nn_e0, nn_in, nn_tn, hp, k16]
        · have w0 : ¬ nn w = 0 := by rw [nn_e0 (by omega)]; exact h0
          by_cases h2 : w = 2
          · subst h2
            refine ag_ok (x := s.1 3 p) ⟨φ, L, R0⟩ ?_ ?_ rfl
            · simp (disch := omega) [p_X1_fact, cp_in hp, c2, kbv, w0, nn_in, nn_tn, hp, nn_e1, nn_e2, nn_e3]
            · rcases (R.2.1 p hp).2 with z | ⟨z, z2, _⟩ | ⟨z, z2, _⟩
              · exact absurd z.1 hr
              · simp (disch := omega) [p_X2_fact, o1, o2, kbi, w0, nn_in, nn_tn, hp, k16, z, z2, nn_e1, nn_e2, nn_e3]
              · have k18 : (kS t 15 0 0).1 18 p = s.1 3 p := z2.symm
                simp (disch := omega) [p_X2_fact, o1, o2, kbi, w0, nn_in, nn_tn, hp, k16, z, k18, nn_e1, nn_e2, nn_e3]
          · have w2 : ¬ nn w = 2 := fun z => h2 (nni (by omega) (by omega) z)
            refine ag_ok (x := -1) ⟨φ, L, R0⟩ ?_ ?_ rfl
            · simp (disch := omega) [p_X1_fact, cp_in hp, c2, kbv, w0, w2, nn_in, nn_tn, hp, hr]
            · simp (disch := omega) [p_X2_fact, o1, o2, kbi, w0, w2, nr]
    · have o2 : ∀ t, p_X2_out y 5 t = some (.inl (some 1), t) := fun t => out_out hy
      have c2 : p_X1_checkRange nf ns y 0 4 s = _ := cr_out (n := 5) (by omega) (by omega) hy
      refine ag_ex (e := 0) (c := 1) (y := 0) R1 (List.mem_of_getElem? (i := 0) rfl) ?_ ?_ rfl
      · simp [p_X1_fact, cp_in hp, c2, kbv]
      · simp [p_X2_fact, o1, o2, kbi, p_X2_fail]
  · have o1 : ∀ t, p_X2_out x 6 t = some (.inl (some 1), t) := fun t => out_out hx
    refine ag_ex (e := 0) (c := 1) (y := 0) R1 (List.mem_of_getElem? (i := 0) rfl) ?_ ?_ rfl
    · simp [p_X1_fact, cp_out hx, kbv]
    · simp [p_X2_fact, o1, kbi, p_X2_fail]
