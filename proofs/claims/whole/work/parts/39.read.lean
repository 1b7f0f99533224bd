theorem nn_p6 (a : Nat) : nn a + 6 = nn (a + 6) := nn_add a 6
theorem nn_pm {a : Nat} (h : 1 ≤ a) : nn a + -1 = nn (a - 1) := by
  have := nn_s1 h
  rwa [Int32.sub_eq_add_neg] at this
theorem ap_stop {nf ns n to i : Nat} {x : Int32} {s : KS} (ht : to < 1000) (hi : i < 1000) (h : to ≤ i) : p_X1_addPages_L3 nf ns (n + 1) x (nn to) (nn i) s = some (.inl none, s) := by
  simp (disch := omega) [p_X1_addPages_L3, nn_le, h]
theorem ap_step {nf ns n p to i : Nat} {x : Int32} {s s1 : KS} (hp : p < 6) (ht : to ≤ 11) (h : i < to) (e : p_X0_newPage nf ns s = some (.inl (some x), s1)) : p_X1_addPages_L3 nf ns (n + 1) (nn p) (nn to) (nn i) s = p_X1_addPages_L3 nf ns n (nn p) (nn to) (nn (i + 1)) (kG s1 p i x) := by
  simp (disch := omega) [p_X1_addPages_L3, nn_le, (fF (by omega) : (to ≤ i) = False), nn_in, nn_tn, hp, e, kbi, (by omega : i < 11), nn_p1]
theorem gl_stop {n p a : Nat} {l : Int32} {t : KS} (h3 : 32 ≤ a) (ha : a < 44) (h : l < nn ((a - 32) / 4)) : p_X2_growStack_L9 (n + 1) (nn p) (nn a) l t = some (.inl none, t) := by
  simp (disch := omega) only [p_X2_growStack_L9, nn_32s, nn_d4, eq_true h, decide_true, cond_true]
theorem gl_skip {n p a k K : Nat} {t : KS} (hp : p < 6) (h3 : 32 ≤ a) (ha : a < 44) (hk : k < 3) (h : (a - 32) / 4 ≤ k) (hK : K < 70) (e : t.1 22 (9 * p + (6 + k)) = nn K) : p_X2_growStack_L9 (n + 1) (nn p) (nn a) (nn k) t = p_X2_growStack_L9 n (nn p) (nn a) (nn k + -1) t := by
  rw [← Nat.add_assoc] at e
  simp (disch := omega) only [p_X2_growStack_L9, nn_32s, nn_d4, nn_lt, (fF (by omega) : (k < (a - 32) / 4) = False), nn_m9, nn_p6, nn_add, nn_in, nn_tn, (by omega : 9 * p + 6 + k < 54), e, nn_g0, decide_true, decide_false, cond_true, cond_false]
theorem gl_new {n p a k : Nat} {x : Int32} {t t1 : KS} (hp : p < 6) (h3 : 32 ≤ a) (ha : a < 44) (hk : k < 3) (h : (a - 32) / 4 ≤ k) (e : t.1 22 (9 * p + (6 + k)) = -1) (hn : p_X2_newPage t = some (.inl (some x), t1)) : p_X2_growStack_L9 (n + 1) (nn p) (nn a) (nn k) t = p_X2_growStack_L9 n (nn p) (nn a) (nn k + -1) (kS (kS t1 22 (9 * p + (6 + k)) x) 21 p (t1.1 21 p + 1)) := by
  rw [← Nat.add_assoc] at e ⊢
  have e2 : (kS t1 22 (9 * p + 6 + k) x).1 21 p = t1.1 21 p := rfl
  simp (disch := omega) only [p_X2_growStack_L9, nn_32s, nn_d4, nn_lt, (fF (by omega) : (k < (a - 32) / 4) = False), nn_m9, nn_p6, nn_add, nn_in, nn_tn, (by omega : 9 * p + 6 + k < 54), e, m1_g0, hn, kbi, hp, e2, decide_true, decide_false, cond_true, cond_false]
theorem pa_of {s t s' t' : KS} {q : Nat} (h : PA s t q) (h1 : ∀ c, 1 ≤ c → c < 7 → s'.1 c q = s.1 c q) (h2 : s'.2 q = s.2 q) (h3 : ∀ c, 16 ≤ c → c < 22 → t'.1 c q = t.1 c q) : PA s' t' q := by
  unfold PA
  rw [h1 1 (by omega) (by omega), h1 2 (by omega) (by omega), h1 3 (by omega) (by omega), h1 4 (by omega) (by omega), h1 5 (by omega) (by omega), h1 6 (by omega) (by omega), h2, h3 16 (by omega) (by omega), h3 17 (by omega) (by omega), h3 18 (by omega) (by omega), h3 19 (by omega) (by omega), h3 20 (by omega) (by omega), h3 21 (by omega) (by omega)]
  exact h
theorem kS_n {s : KS} {c i : Nat} {x : Int32} {d q : Nat} (h : q ≠ i) : (kS s c i x).1 d q = s.1 d q := by
  rw [kS_1]
  split
  · rename_i e; rw [upd_n h, e]
  · rfl
theorem kS_m {s : KS} {c i : Nat} {x : Int32} {d : Nat} (h : d ≠ c) : (kS s c i x).1 d = s.1 d := by
  rw [kS_1, if_neg h]
/-- the stack of a process has grown -/
theorem rq_grown {nf ns p e' : Nat} {φ φ' : Nat → Nat} {L L' : Nat → Prop} {s t s1 t1 : KS} {y : Int32} (R : RQ nf ns φ L s t) (hp : p < 6) (hr : s.1 1 p = 1) (R' : RX nf ns φ' L' no0 noG noX s1 t1) (hK : fixK s s1) (hN : ∀ c, 16 ≤ c → c < 21 → t1.1 c = t.1 c) (hN2 : ∀ q, q ≠ p → t1.1 21 q = t.1 21 q) (hg : ∀ q, q ≠ p → s1.2 q = s.2 q) (he : 1 ≤ e' ∧ e' ≤ 3) (hy : y = nn e') (hy2 : t1.1 21 p = nn e') (hs : ∀ k, k < 8 → s1.2 p k = s.2 p k) (hs2 : ∀ k, k < 3 → (s1.2 p (8 + k) = -1 ↔ k + e' < 3)) : RQ nf ns φ' L' (kS s1 6 p y) t1 := by
  obtain ⟨r1, r2, q, d, e, hq, hd, he1, he3, e1, e2, e3, e4, e5, e6, ⟨w0, w1, w2, w3⟩⟩ := rq_run R hp hr
  refine ⟨R', fun r hrr => ?_, ?_, ?_⟩
  · by_cases c : r = p
    · subst c
      refine ⟨?_, Or.inl ⟨?_, ?_, q, d, e', hq, hd, he.1, he.2, ?_, ?_, ?_, ?_, ?_, ?_, ?_, ?_, ?_, hs2⟩⟩
      · show s1.1 1 r = t1.1 16 r
        rw [hK 1 (by omega), hN 16 (by omega) (by omega)]; exact (R.2.1 r hp).1
      · show s1.1 1 r = 1
        rw [hK 1 (by omega)]; exact hr
      · show s1.1 3 r = t1.1 18 r
        rw [hK 3 (by omega), hN 18 (by omega) (by omega)]; exact r2
      · show s1.1 2 r = _
        rw [hK 2 (by omega)]; exact e1
      · rw [hN 17 (by omega) (by omega)]; exact e2
      · show s1.1 5 r = _
        rw [hK 5 (by omega)]; exact e3
      · rw [hN 20 (by omega) (by omega)]; exact e4
      · show upd (s1.1 6) r y r = _
        rw [upd_a, hy]
      · exact hy2
      · show s1.2 r 0 = _
        rw [hs 0 (by omega)]; exact w0
      · show s1.2 r 1 = _
        rw [hs 1 (by omega)]; exact w1
      · intro k hk
        show s1.2 r (2 + k) = -1 ↔ _
        rw [hs (2 + k) (by omega)]; exact w2 k hk
    · refine pa_of (R.2.1 r hrr) (fun c' h1 h2 => ?_) (hg r c) (fun c' h1 h2 => ?_)
      · rw [kS_n c, hK c' (by omega)]
      · by_cases z : c' = 21
        · subst z; exact hN2 r c
        · rw [hN c' h1 (by omega)]
  · show s1.1 1 0 = 1
    rw [hK 1 (by omega)]; exact R.2.2.1
  · show s1.1 3 0 = -1
    rw [hK 3 (by omega)]; exact R.2.2.2
theorem rq_e {nf ns p k : Nat} {φ : Nat → Nat} {L : Nat → Prop} {s t : KS} (R : RQ nf ns φ L s t) (hp : p < 6) (hk : k < 9) : (s.2 p (2 + k) = -1 ∧ t.1 22 (9 * p + k) = -1) ∨ ∃ K, K < 70 ∧ ¬ s.2 p (2 + k) = -1 ∧ t.1 22 (9 * p + k) = nn K := by
  rcases R.1.2.2.2.2.2.2.2.2.2 p k hp hk id with h | ⟨P, a, b, c, d, e⟩
  · exact Or.inl h
  · exact Or.inr ⟨φ P, (R.1.2.2.2.1.1 P a).2.1, by rw [d]; exact nnm (by omega), e⟩
theorem gt_no {nf ns p j : Nat} {s : KS} (hp : p < 6) (hj : j < 11) (h : j < 8 ∨ ∃ e, s.1 6 p = nn e ∧ e ≤ 11 ∧ 11 - e ≤ j) : p_X1_growStackTo nf ns (nn p) (nn j) s = some (.inl none, s) := by
  have n8 : ∀ a : Nat, a < 1000 → (nn a < 8) = (a < 8) := fun a ha => nn_lt (a := a) (b := 8) (by omega) (by omega)
  rcases h with h | ⟨e, h, he, h2⟩
  · simp (disch := omega) [p_X1_growStackTo, nn_in, nn_tn, hp, n8, h]
  · have : (11 : Int32) - nn e = nn (11 - e) := nn_sub (a := 11) (b := e) he
    by_cases c : j < 8
    · simp (disch := omega) [p_X1_growStackTo, nn_in, nn_tn, hp, n8, c]
    · simp (disch := omega) [p_X1_growStackTo, nn_in, nn_tn, hp, n8, (fF c), h, this, nn_le, h2]
theorem gt_go {nf ns p j e : Nat} {s s1 : KS} (hp : p < 6) (hj : j < 11) (h8 : 8 ≤ j) (h : s.1 6 p = nn e) (he : e ≤ 11) (h2 : j < 11 - e) (ha : p_X1_addPages_L3 nf ns 400 (nn p) (nn (11 - e)) (nn j) s = some (.inl none, s1)) : p_X1_growStackTo nf ns (nn p) (nn j) s = some (.inl none, kS s1 6 p (nn (11 - j))) := by
  have n8 : ∀ a : Nat, a < 1000 → (nn a < 8) = (a < 8) := fun a ha => nn_lt (a := a) (b := 8) (by omega) (by omega)
  have a1 : (11 : Int32) - nn e = nn (11 - e) := nn_sub (a := 11) (b := e) he
  have a2 : (11 : Int32) - nn j = nn (11 - j) := nn_sub (a := 11) (b := j) (by omega)
  simp (disch := omega) only [p_X1_growStackTo, nn_in, nn_tn, hp, n8, (fF (by omega) : (j < 8) = False), h, a1, a2, nn_le, (fF (by omega) : (11 - e ≤ j) = False), p_X1_addPages, ha, kbv, decide_true, decide_false, cond_true, cond_false]
theorem gs_pair {nf ns p a : Nat} {φ : Nat → Nat} {L : Nat → Prop} {s t : KS} (R : RQ nf ns φ L s t) (hp : p < 6) (hr : s.1 1 p = 1) (ha : a < 44) : ∃ φ' L' s' t', p_X1_growStackTo nf ns (nn p) (nn (a / 4)) s = some (.inl none, s') ∧ p_X2_growStack (nn p) (nn a) t = some (.inl none, t') ∧ RQ nf ns φ' L' s' t' ∧ s'.1 1 = s.1 1 ∧ t'.1 15 = t.1 15 := by
  obtain ⟨r1, r2, q, d, e, hq, hd, he1, he3, e1, e2, e3, e4, e5, e6, ⟨w0, w1, w2, w3⟩⟩ := rq_run R hp hr
  by_cases c : 32 ≤ a
  · have g9 : p_X2_growStack (nn p) (nn a) t = p_X2_growStack_L9 400 (nn p) (nn a) (nn 2) t := by
      simp (disch := omega) only [p_X2_growStack, nn_32g, c, decide_true, cond_true]; rfl
    rw [g9]
    have ent : ∀ k, k < 3 → ¬ k + e < 3 → ∃ K, K < 70 ∧ t.1 22 (9 * p + (6 + k)) = nn K := fun k hk h => by
      rcases rq_e R hp (show 6 + k < 9 by omega) with ⟨x, _⟩ | ⟨K, hK, _, y⟩
      · rw [show 2 + (6 + k) = 8 + k by omega] at x
        exact absurd ((w3 k hk).mp x) h
      · exact ⟨K, hK, y⟩
    have ent0 : ∀ k, k < 3 → k + e < 3 → s.2 p (2 + (6 + k)) = -1 ∧ t.1 22 (9 * p + (6 + k)) = -1 := fun k hk h => by
      rcases rq_e R hp (show 6 + k < 9 by omega) with x | ⟨K, hK, y, _⟩
      · exact x
      · rw [show 2 + (6 + k) = 8 + k by omega] at y
        exact absurd ((w3 k hk).mpr h) y
    have l0 : (-1 : Int32) < nn ((a - 32) / 4) := by rw [nn_mlt (by omega)]; trivial
    have m0 : nn 0 + -1 = -1 := by decide
    have m1 : nn 1 + -1 = nn 0 := by decide
    have m2 : nn 2 + -1 = nn 1 := by decide
    obtain ⟨K2, hK2, y2⟩ := ent 2 (by omega) (by omega)
    have st2 : ∀ n, p_X2_growStack_L9 (n + 1) (nn p) (nn a) (nn 2) t = p_X2_growStack_L9 n (nn p) (nn a) (nn 1) t := fun n => by
      rw [gl_skip hp c ha (by omega) (by omega) hK2 y2, m2]
    have hJ : (a - 32) / 4 = 0 ∨ (a - 32) / 4 = 1 ∨ (a - 32) / 4 = 2 := by omega
    by_cases none' : 3 - e ≤ (a - 32) / 4
    · refine ⟨φ, L, s, t, gt_no hp (by omega) (Or.inr ⟨e, e5, by omega, by omega⟩), ?_, R, rfl, rfl⟩
      rw [st2 399]
      by_cases j2 : (a - 32) / 4 = 2
      · exact gl_stop c ha (by rw [nn_lt (by omega) (by omega)]; omega)
      · obtain ⟨K1, hK1, y1⟩ := ent 1 (by omega) (by omega)
        rw [gl_skip hp c ha (by omega) (by omega) hK1 y1, m1]
        by_cases j1 : (a - 32) / 4 = 1
        · exact gl_stop c ha (by rw [nn_lt (by omega) (by omega)]; omega)
        · obtain ⟨K0, hK0, y0⟩ := ent 0 (by omega) (by omega)
          rw [gl_skip hp c ha (by omega) (by omega) hK0 y0, m0]
          exact gl_stop c ha l0
    · by_cases one : (a - 32) / 4 + e = 2
      · -- one page
        obtain ⟨x0, y0⟩ := ent0 ((a - 32) / 4) (by omega) (by omega)
        obtain ⟨P, K, s1, t1, φ', L', hP, hK, b1, b2, b3, b4, b5, b6, b7⟩ := rx_alloc R.1 (fun _ _ => rfl) hp (show 6 + (a - 32) / 4 < 9 by omega) x0
        have idx : 2 + (6 + (a - 32) / 4) = a / 4 := by omega
        rw [idx] at b3
        have t21 : t1.1 21 p = nn e := by rw [b7.2 21 (by omega) (by omega)]; exact e6
        have hcl : p_X1_addPages_L3 nf ns 400 (nn p) (nn (11 - e)) (nn (a / 4)) s = some (.inl none, kG s1 p (a / 4) (nn P)) := by
          rw [ap_step hp (by omega) (by omega) b1]
          exact ap_stop (by omega) (by omega) (by omega)
        have hmo : p_X2_growStack_L9 400 (nn p) (nn a) (nn 2) t = some (.inl none, kS (kS t1 22 (9 * p + (6 + (a - 32) / 4)) (nn K)) 21 p (t1.1 21 p + 1)) := by
          rw [st2 399]
          by_cases j1 : (a - 32) / 4 = 1
          · rw [j1] at y0 ⊢
            rw [gl_new hp c ha (by omega) (by omega) y0 b2, m1]
            exact gl_stop c ha (by rw [nn_lt (by omega) (by omega)]; omega)
          · have j0 : (a - 32) / 4 = 0 := by omega
            obtain ⟨K1, hK1, y1⟩ := ent 1 (by omega) (by omega)
            rw [gl_skip hp c ha (by omega) (by omega) hK1 y1, m1]
            rw [j0] at y0 ⊢
            rw [gl_new hp c ha (by omega) (by omega) y0 b2, m0]
            exact gl_stop c ha l0
        refine ⟨φ', L', _, _, gt_go hp (by omega) (by omega) e5 (by omega) (by omega) hcl, hmo, ?_, ?_, ?_⟩
        · refine rq_grown (e' := e + 1) R hp hr (t1 := kS (kS t1 22 (9 * p + (6 + (a - 32) / 4)) (nn K)) 21 p (t1.1 21 p + 1)) b3 b6 (fun c' h1 h2 => ?_) (fun r hr => ?_) (fun r hr => ?_) (by omega) (by congr 1; omega) ?_ (fun k hk => ?_) (fun k hk => ?_)
          · rw [kS_m (by omega), kS_m (by omega)]; exact b7.2 c' h1 (by omega)
          · rw [kS_n hr, kS_m (by omega)]; rw [b7.2 21 (by omega) (by omega)]
          · show tS s1.2 p _ _ r = _
            rw [tS_r, if_neg hr, b4]
          · show upd (t1.1 21) p (t1.1 21 p + 1) p = _
            rw [upd_a, t21, nn_p1]
          · show tS s1.2 p _ _ p k = _
            rw [tS_e, if_neg (by omega), b4]
          · show tS s1.2 p _ _ p (8 + k) = -1 ↔ _
            rw [tS_e, b4]
            by_cases z : 8 + k = a / 4
            · rw [if_pos ⟨rfl, z⟩]
              exact ⟨fun x => absurd x (nnm (by omega)), fun x => absurd x (by omega)⟩
            · rw [if_neg (fun x => z x.2), w3 k hk]; omega
        · show s1.1 1 = s.1 1
          exact b6 1 (by omega)
        · show t1.1 15 = t.1 15
          exact b7.1
      · -- two pages
        have hj0 : (a - 32) / 4 = 0 := by omega
        have he' : e = 1 := by omega
        have ha4 : a / 4 = 8 := by omega
        subst he'
        obtain ⟨x1, y1⟩ := ent0 1 (by omega) (by omega)
        obtain ⟨x0, y0⟩ := ent0 0 (by omega) (by omega)
        obtain ⟨Ka, ta, hKa, a1, a2, a3, a4, a5, a6, a7, _, _⟩ := rx_mnew R.1 (fun _ _ x => absurd x id)
        let X' : Nat → Nat → Prop := fun r k => r = p ∧ (k = 6 ∨ k = 7)
        have A1 : RX nf ns φ L no0 (fun k => noG k ∨ k = Ka) X' s (kS (kS ta 22 (9 * p + (6 + 1)) (nn Ka)) 21 p (ta.1 21 p + 1)) := rx_tp (x := nn Ka) (k := 6 + 1) (rx_X X' a2 (fun _ _ _ _ x => absurd x id)) (by omega) ⟨rfl, Or.inr rfl⟩
        obtain ⟨Kb, tb, hKb, b1, b2, b3, b4, b5, b6, b7, b8, b9⟩ := rx_mnew A1 (fun K K' x y => (x.elim (fun z => absurd z id) id).trans (y.elim (fun z => absurd z id) id).symm)
        have hne : Ka ≠ Kb := fun z => b3 (Or.inr z.symm)
        have A2 : RX nf ns φ L no0 (fun k => (noG k ∨ k = Ka) ∨ k = Kb) X' s (kS (kS tb 22 (9 * p + (6 + 0)) (nn Kb)) 21 p (tb.1 21 p + 1)) := rx_tp (x := nn Kb) (k := 6 + 0) b2 (by omega) ⟨rfl, Or.inl rfl⟩
        obtain ⟨Pa, sa, c1, c2, c3, c4, c5, c6, c7⟩ := rx_cnew (K := Kb) A2 (fun _ _ => rfl) hp (show 6 < 9 by omega) x0 ⟨rfl, Or.inl rfl⟩ (Or.inr rfl) hKb b4 b5
        have xa : (kG sa p (2 + 6) (nn Pa)).2 p (2 + 7) = -1 := by
          show tS sa.2 p _ _ p (2 + 7) = -1
          rw [tS_e, if_neg (by omega), c5]; exact x1
        have ka1 : (kS (kS tb 22 (9 * p + (6 + 0)) (nn Kb)) 21 p (tb.1 21 p + 1)).1 25 Ka = -1 := (b8 Ka hne).trans a4
        have ka2 : ∀ i, i < 4 → (kS (kS tb 22 (9 * p + (6 + 0)) (nn Kb)) 21 p (tb.1 21 p + 1)).1 23 (4 * Ka + i) = 0 := fun i hi => (b9 Ka i hne hi).trans (a5 i hi)
        obtain ⟨Pb, sb, d1, d2, d3, d4, d5, d6, d7⟩ := rx_cnew (K := Ka) c7 (fun _ _ => rfl) hp (show 7 < 9 by omega) xa ⟨rfl, Or.inr rfl⟩ ⟨Or.inl (Or.inr rfl), hne⟩ hKa ka1 ka2
        have t21a : ta.1 21 p = nn 1 := by rw [a6.2 21 (by omega) (by omega)]; exact e6
        have t21b : tb.1 21 p = nn 2 := by
          rw [b6.2 21 (by omega) (by omega)]
          show upd (ta.1 21) p (ta.1 21 p + 1) p = nn 2
          rw [upd_a, t21a, nn_p1]
        have t22b : tb.1 22 = upd (ta.1 22) (9 * p + (6 + 1)) (nn Ka) := b7
        have g2 : ∀ r k, (kG sb p (2 + 7) (nn Pb)).2 r k = if r = p ∧ k = 9 then nn Pb else if r = p ∧ k = 8 then nn Pa else s.2 r k := fun r k => by
          show tS sb.2 p (2 + 7) (nn Pb) r k = _
          rw [tS_e, d5]
          show (if r = p ∧ k = 9 then nn Pb else tS sa.2 p 8 (nn Pa) r k) = _
          rw [tS_e, c5]
        have hcl : p_X1_addPages_L3 nf ns 400 (nn p) (nn (11 - 1)) (nn (a / 4)) s = some (.inl none, kG sb p (2 + 7) (nn Pb)) := by
          rw [ha4, ap_step hp (by omega) (by omega) c4, ap_step hp (by omega) (by omega) d4]
          exact ap_stop (by omega) (by omega) (by omega)
        have hmo : p_X2_growStack_L9 400 (nn p) (nn a) (nn 2) t = some (.inl none, kS (kS tb 22 (9 * p + (6 + 0)) (nn Kb)) 21 p (tb.1 21 p + 1)) := by
          rw [st2 399, gl_new hp c ha (by omega) (by omega) y1 a1, m1, gl_new hp c ha (by omega) (by omega) (show (kS (kS ta 22 (9 * p + (6 + 1)) (nn Ka)) 21 p (ta.1 21 p + 1)).1 22 (9 * p + (6 + 0)) = -1 from by
            show upd (ta.1 22) (9 * p + (6 + 1)) (nn Ka) (9 * p + (6 + 0)) = -1
            rw [upd_n (by omega), a7]; exact y0) b1, m0]
          exact gl_stop c ha l0
        refine ⟨fS (fS φ Pa Kb) Pb Ka, fun Q => (L Q ∨ Q = Pa) ∨ Q = Pb, _, _, gt_go hp (by omega) (by omega) e5 (by omega) (by omega) hcl, hmo, ?_, ?_, ?_⟩
        · have D : RX nf ns (fS (fS φ Pa Kb) Pb Ka) (fun Q => (L Q ∨ Q = Pa) ∨ Q = Pb) no0 noG noX (kG sb p (2 + 7) (nn Pb)) (kS (kS tb 22 (9 * p + (6 + 0)) (nn Kb)) 21 p (tb.1 21 p + 1)) := by
            refine rx_G (rx_X noX d7 (fun r k _ _ x _ => ?_)) (fun k => ⟨fun x => ?_, fun x => absurd x id⟩)
            · obtain ⟨rfl, x⟩ := x
              have hab : Pa ≠ Pb := fun z => d3 (Or.inr z.symm)
              rcases x with rfl | rfl
              · refine Or.inr ⟨Pa, Or.inl (Or.inr rfl), c1, c2, ?_, ?_⟩
                · rw [g2, if_neg (by omega), if_pos ⟨rfl, rfl⟩]
                · show upd (tb.1 22) (9 * r + (6 + 0)) (nn Kb) (9 * r + 6) = _
                  rw [upd_a, fS_n hab, fS_a]
              · refine Or.inr ⟨Pb, Or.inr rfl, d1, d2, ?_, ?_⟩
                · rw [g2, if_pos ⟨rfl, rfl⟩]
                · show upd (tb.1 22) (9 * r + (6 + 0)) (nn Kb) (9 * r + 7) = _
                  rw [upd_n (by omega), t22b, fS_a]
                  exact upd_a _ _ _
            · obtain ⟨⟨(x | x) | x, y⟩, z⟩ := x
              · exact x
              · exact absurd x z
              · exact absurd x y
          refine rq_grown (e' := 3) R hp hr D (fixK_t c6 d6) (fun c' h1 h2 => ?_) (fun r hr => ?_) (fun r hr => ?_) (by omega) (by rw [ha4]) ?_ (fun k hk => ?_) (fun k hk => ?_)
          · rw [kS_m (by omega), kS_m (by omega), b6.2 c' h1 (by omega), kS_m (by omega), kS_m (by omega)]; exact a6.2 c' h1 (by omega)
          · rw [kS_n hr, kS_m (by omega), b6.2 21 (by omega) (by omega), kS_n hr, kS_m (by omega), a6.2 21 (by omega) (by omega)]
          · funext k
            rw [g2, if_neg (fun x => hr x.1), if_neg (fun x => hr x.1)]
          · show upd (tb.1 21) p (tb.1 21 p + 1) p = nn 3
            rw [upd_a, t21b, nn_p1]
          · rw [g2, if_neg (by omega), if_neg (by omega)]
          · rw [g2]
            have : k = 0 ∨ k = 1 ∨ k = 2 := by omega
            rcases this with rfl | rfl | rfl
            · rw [if_neg (by omega), if_pos ⟨rfl, rfl⟩]
              exact ⟨fun x => absurd x (nnm (by omega)), fun x => absurd x (by omega)⟩
            · rw [if_pos ⟨rfl, rfl⟩]
              exact ⟨fun x => absurd x (nnm (by omega)), fun x => absurd x (by omega)⟩
            · rw [if_neg (by omega), if_neg (by omega), w3 2 (by omega)]; omega
        · show sb.1 1 = s.1 1
          exact (fixK_t c6 d6) 1 (by omega)
        · show tb.1 15 = t.1 15
          exact b6.1.trans a6.1
  · refine ⟨φ, L, s, t, gt_no hp (by omega) (Or.inl (by omega)), ?_, R, rfl, rfl⟩
    simp (disch := omega) [p_X2_growStack, nn_32g, fF c]
