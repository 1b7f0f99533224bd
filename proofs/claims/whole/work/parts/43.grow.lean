theorem kS_id {t : KS} {c i : Nat} {x : Int32} (h : t.1 c i = x) : kS t c i x = t := by
  have : va_up t.1 c (upd (t.1 c) i x) = t.1 := funext fun d => by
    show (if d = c then upd (t.1 c) i x else t.1 d) = t.1 d
    by_cases e : d = c
    · rw [if_pos e, e]
      funext j
      rw [upd_e]
      split
      · rename_i z; rw [z, h]
      · rfl
    · rw [if_neg e]
  show (va_up t.1 c (upd (t.1 c) i x), t.2) = t
  rw [this]
/-- text of a process -/
def TA (st pg : Nat → Int32) (g : Nat → Nat → Int32) (p : Nat) : Prop :=
  (st p = 1 ∧ ∃ q, q < 3 ∧ pg p = nn q ∧ g p 0 = nn (2 * q) ∧ g p 1 = nn (2 * q + 1)) ∨ (¬ st p = 1 ∧ g p 0 = -1 ∧ g p 1 = -1)
theorem pa_ta {s t : KS} {p : Nat} (h : PA s t p) : TA (t.1 16) (t.1 17) s.2 p := by
  obtain ⟨e, h⟩ := h
  rcases h with ⟨a, b, q, d, e', hq, hd, _, _, _, e2, _, _, _, _, sh⟩ | ⟨a, b, c⟩ | ⟨a, b, b', c⟩
  · exact Or.inl ⟨e ▸ a, q, hq, e2, sh.1, sh.2.1⟩
  · exact Or.inr ⟨by rw [← e, a]; decide, c 0 (by omega), c 1 (by omega)⟩
  · exact Or.inr ⟨by rw [← e, a]; decide, c 0 (by omega), c 1 (by omega)⟩
theorem ta_tc {st pg : Nat → Int32} {g : Nat → Nat → Int32} {P : Nat} (hP : P < 6) (hI : GI g) (h : ∀ p, p < 6 → TA st pg g p) : tc st pg P = uc g P := by
  unfold tc uc
  rw [cnt6]
  refine sum6_cong (fun p hp => ?_)
  rw [pc_txt hp hP hI]
  rcases h p hp with ⟨a, q, hq, b, c, d⟩ | ⟨a, c, d⟩
  · simp (disch := omega) only [cnt, a, b, c, d, decide_eq_true_eq, nn_eq, true_and]
    by_cases z : q = P / 2
    · rw [if_pos z]
      by_cases z2 : 2 * q = P
      · rw [if_pos z2, if_neg (by omega)]
      · rw [if_neg z2, if_pos (by omega)]
    · rw [if_neg z, if_neg (by omega), if_neg (by omega)]
  · simp (disch := omega) [cnt, a, c, d, nn_m1']
theorem clean_p {nf ns : Nat} {φ : Nat → Nat} {L G : Nat → Prop} {s t : KS} (R : RX nf ns φ L no0 G noX s t) (h : ∀ p, p < 6 → TA (t.1 16) (t.1 17) s.2 p) : ∃ t', p_X2_clean t = some (.inl none, t') ∧ RX nf ns φ L no0 noG noX s t' ∧ fixN t t' ∧ t'.1 22 = t.1 22 := by
  have hU := R.2.2.2.2.2.1
  have hI := R.2.2.2.2.2.2.2.2.1
  exact clean_loop (fun _ _ => rfl) 70 0 400 G t (by omega) (by omega) R (fun k _ => Nat.zero_le k) (fun P hP => by
    rw [ta_tc hP hI h]
    have : L P ↔ 0 < uc s.2 P := (hU P (by omega)).2.1
    rw [this]; omega)
theorem nn_2p (a : Nat) : 2 + nn a = nn (2 + a) := nn_add 2 a
/-! the reference's loop in grow -/
theorem mg_skip {f p n k d : Nat} {t : KS} (hp : p < 6) (hn : n ≤ 6) (hk : k < 6) (h : k < n) (e : t.1 20 p = nn d) (hd : d ≤ 6) (h2 : k < d) : p_X2_grow_L75 (f + 1) (nn p) (nn n) (nn k) t = p_X2_grow_L75 f (nn p) (nn n) (nn (k + 1)) t := by
  simp (disch := omega) only [p_X2_grow_L75, nn_6g, (fF (by omega) : (6 ≤ k) = False), nn_lt, h, nn_in, nn_tn, hp, e, h2, nn_p1, decide_true, decide_false, cond_true, cond_false]
theorem mg_new {f p n k d : Nat} {x : Int32} {t t1 : KS} (hp : p < 6) (hn : n ≤ 6) (hk : k < 6) (h : k < n) (e : t.1 20 p = nn d) (hd : d ≤ 6) (h2 : d ≤ k) (hnp : p_X2_newPage t = some (.inl (some x), t1)) : p_X2_grow_L75 (f + 1) (nn p) (nn n) (nn k) t = p_X2_grow_L75 f (nn p) (nn n) (nn (k + 1)) (kS t1 22 (9 * p + k) x) := by
  simp (disch := omega) only [p_X2_grow_L75, nn_6g, (fF (by omega) : (6 ≤ k) = False), nn_lt, h, nn_in, nn_tn, hp, e, (fF (by omega) : (k < d) = False), hnp, kbi, nn_m9, nn_add, (by omega : 9 * p + k < 54), nn_p1, decide_true, decide_false, cond_true, cond_false]
theorem mg_out {f p n k : Nat} {t : KS} (hp : p < 6) (hk : k < 6) (h : n ≤ k) : p_X2_grow_L75 (f + 1) (nn p) (nn n) (nn k) t = p_X2_grow_L75 f (nn p) (nn n) (nn (k + 1)) (kS t 22 (9 * p + k) (-1)) := by
  simp (disch := omega) only [p_X2_grow_L75, nn_6g, (fF (by omega) : (6 ≤ k) = False), nn_lt, (fF (by omega) : (k < n) = False), nn_in, nn_tn, nn_m9, nn_add, (by omega : 9 * p + k < 54), nn_p1, decide_true, decide_false, cond_true, cond_false]
theorem mg_end {f p n : Nat} {t t1 : KS} (hp : p < 6) (h : p_X2_clean (kS t 20 p (nn n)) = some (.inl none, t1)) : p_X2_grow_L75 (f + 1) (nn p) (nn n) (nn 6) t = some (.inl (some (nn n)), t1) := by
  simp (disch := omega) only [p_X2_grow_L75, nn_6g, Nat.le_refl, nn_in, nn_tn, hp, h, kbv, decide_true, cond_true]
theorem mg_skips {p n d : Nat} {t : KS} (hp : p < 6) (hn : n ≤ 6) (e : t.1 20 p = nn d) (hd : d ≤ 6) : ∀ (m k f : Nat), k + m ≤ n → k + m ≤ d → p_X2_grow_L75 (m + f) (nn p) (nn n) (nn k) t = p_X2_grow_L75 f (nn p) (nn n) (nn (k + m)) t
  | 0, k, f, h1, h2 => by rw [Nat.zero_add]; rfl
  | m + 1, k, f, h1, h2 => by
    rw [show m + 1 + f = (m + f) + 1 by omega, mg_skip hp hn (by omega) (by omega) e hd (by omega), mg_skips hp hn e hd m (k + 1) f (by omega) (by omega), show k + 1 + m = k + (m + 1) by omega]
theorem mg_outs {p n : Nat} {t : KS} (hp : p < 6) : ∀ (m k f : Nat), k + m = 6 → n ≤ k → (∀ j, k ≤ j → j < 6 → t.1 22 (9 * p + j) = -1) → p_X2_grow_L75 (m + f) (nn p) (nn n) (nn k) t = p_X2_grow_L75 f (nn p) (nn n) (nn 6) t
  | 0, k, f, h1, h2, h => by rw [Nat.zero_add, show k = 6 by omega]
  | m + 1, k, f, h1, h2, h => by
    rw [show m + 1 + f = (m + f) + 1 by omega, mg_out hp (by omega) h2, kS_id (h k (by omega) (by omega)), mg_outs hp m (k + 1) f (by omega) (by omega) (fun j x y => h j (by omega) y)]
theorem gu_loop {nf ns p n d : Nat} (hp : p < 6) (hn : n ≤ 6) (hd : d ≤ 6) : ∀ (m k cf mf : Nat) (φ : Nat → Nat) (L : Nat → Prop) (s t : KS), k + m = n → m < cf → d ≤ k → RX nf ns φ L no0 noG noX s t → (∀ j, k ≤ j → j < 6 → s.2 p (2 + j) = -1) → t.1 20 p = nn d → ∃ φ' L' s' t', p_X1_addPages_L3 nf ns cf (nn p) (nn (2 + n)) (nn (2 + k)) s = some (.inl none, s') ∧ p_X2_grow_L75 (m + mf) (nn p) (nn n) (nn k) t = p_X2_grow_L75 mf (nn p) (nn n) (nn n) t' ∧ RX nf ns φ' L' no0 noG noX s' t' ∧ fixK s s' ∧ fixN t t' ∧ (∀ q j, ¬ (q = p ∧ 2 + k ≤ j ∧ j < 2 + n) → s'.2 q j = s.2 q j) ∧ (∀ j, k ≤ j → j < n → ¬ s'.2 p (2 + j) = -1)
  | 0, k, cf + 1, mf, φ, L, s, t, h1, h2, h3, R, h4, h5 => by
    refine ⟨φ, L, s, t, ap_stop (by omega) (by omega) (by omega), ?_, R, fixK_r s, fixN_r t, fun q j _ => rfl, fun j x y => absurd y (by omega)⟩
    rw [Nat.zero_add, show k = n by omega]
  | m + 1, k, cf + 1, mf, φ, L, s, t, h1, h2, h3, R, h4, h5 => by
    obtain ⟨P, K, s1, t1, φ1, L1, hP, hK, b1, b2, b3, b4, b5, b6, b7⟩ := rx_alloc R (fun _ _ => rfl) hp (show k < 9 by omega) (h4 k (by omega) (by omega))
    have g1 : ∀ q j, (kG s1 p (2 + k) (nn P)).2 q j = if q = p ∧ j = 2 + k then nn P else s.2 q j := fun q j => by
      show tS s1.2 p (2 + k) (nn P) q j = _
      rw [tS_e, b4]
    obtain ⟨φ', L', s', t', a1, a2, a3, a4, a5, a6, a7⟩ := gu_loop hp hn hd m (k + 1) cf mf φ1 L1 _ _ (by omega) (by omega) (by omega) b3 (fun j x y => by rw [g1, if_neg (by omega)]; exact h4 j (by omega) y) (by
      show t1.1 20 p = nn d
      rw [b7.2 20 (by omega) (by omega)]; exact h5)
    refine ⟨φ', L', s', t', ?_, ?_, a3, fixK_t b6 a4, fixN_t (fixN_s b7 22 _ _ (by omega)) a5, fun q j h => ?_, fun j x y => ?_⟩
    · rw [ap_step hp (by omega) (by omega) b1]; exact a1
    · rw [show m + 1 + mf = (m + mf) + 1 by omega, mg_new hp hn (by omega) (by omega) h5 hd h3 b2]; exact a2
    · rw [a6 q j (by omega), g1, if_neg (by omega)]
    · by_cases c : j = k
      · subst c
        rw [a6 p (2 + j) (by omega), g1, if_pos ⟨rfl, rfl⟩]; exact nnm (by omega)
      · exact a7 j (by omega) y
theorem gd_loop {nf ns p n : Nat} {φ : Nat → Nat} {L : Nat → Prop} {X : Nat → Nat → Prop} {s : KS} (hp : p < 6) (hX : ∀ j, n ≤ j → j < 6 → X p j) : ∀ (m k mf : Nat) (t : KS), k + m = 6 → n ≤ k → RX nf ns φ L no0 noG X s t → ∃ t', p_X2_grow_L75 (m + mf) (nn p) (nn n) (nn k) t = p_X2_grow_L75 mf (nn p) (nn n) (nn 6) t' ∧ RX nf ns φ L no0 noG X s t' ∧ fixN t t' ∧ (∀ j, k ≤ j → j < 6 → t'.1 22 (9 * p + j) = -1) ∧ (∀ i, i < 9 * p + k → t'.1 22 i = t.1 22 i)
  | 0, k, mf, t, h1, h2, R => by
    refine ⟨t, ?_, R, fixN_r t, fun j x y => absurd y (by omega), fun _ _ => rfl⟩
    rw [Nat.zero_add, show k = 6 by omega]
  | m + 1, k, mf, t, h1, h2, R => by
    obtain ⟨t', a1, a2, a3, a4, a5⟩ := gd_loop hp hX m (k + 1) mf (kS t 22 (9 * p + k) (-1)) (by omega) (by omega) (rx_tp R (by omega) (hX k h2 (by omega)))
    refine ⟨t', ?_, a2, fixN_t (fixN_s (fixN_r t) 22 _ _ (by omega)) a3, fun j x y => ?_, fun i x => ?_⟩
    · rw [show m + 1 + mf = (m + mf) + 1 by omega, mg_out hp (by omega) h2]; exact a1
    · by_cases c : j = k
      · subst c
        rw [a5 _ (by omega)]; exact upd_a _ _ _
      · exact a4 j (by omega) y
    · rw [a5 i (by omega)]
      exact upd_n (by omega)
/-- the data of a process have another size -/
theorem rq_data {nf ns p n : Nat} {φ φ' : Nat → Nat} {L L' : Nat → Prop} {s t s1 t1 : KS} (R : RQ nf ns φ L s t) (hp : p < 6) (hr : s.1 1 p = 1) (hn : n ≤ 6) (R' : RX nf ns φ' L' no0 noG noX s1 t1) (hK : fixK s s1) (hN : ∀ c, 16 ≤ c → c < 22 → c ≠ 20 → t1.1 c = t.1 c) (hN2 : t1.1 20 = upd (t.1 20) p (nn n)) (hg : ∀ q, q ≠ p → s1.2 q = s.2 q) (hs : ∀ k, k < 2 ∨ 8 ≤ k → s1.2 p k = s.2 p k) (hs2 : ∀ k, k < 6 → (s1.2 p (2 + k) = -1 ↔ n ≤ k)) : RQ nf ns φ' L' (kS s1 5 p (nn n)) t1 := by
  obtain ⟨r1, r2, q, d, e, hq, hd, he1, he3, e1, e2, e3, e4, e5, e6, ⟨w0, w1, w2, w3⟩⟩ := rq_run R hp hr
  refine ⟨R', fun r hrr => ?_, ?_, ?_⟩
  · by_cases c : r = p
    · subst c
      refine ⟨?_, Or.inl ⟨?_, ?_, q, n, e, hq, hn, he1, he3, ?_, ?_, ?_, ?_, ?_, ?_, ?_, ?_, hs2, ?_⟩⟩
      · show s1.1 1 r = t1.1 16 r
        rw [hK 1 (by omega), hN 16 (by omega) (by omega) (by omega)]; exact (R.2.1 r hp).1
      · show s1.1 1 r = 1
        rw [hK 1 (by omega)]; exact hr
      · show s1.1 3 r = t1.1 18 r
        rw [hK 3 (by omega), hN 18 (by omega) (by omega) (by omega)]; exact r2
      · show s1.1 2 r = _
        rw [hK 2 (by omega)]; exact e1
      · rw [hN 17 (by omega) (by omega) (by omega)]; exact e2
      · exact upd_a _ _ _
      · rw [hN2, upd_a]
      · show s1.1 6 r = _
        rw [hK 6 (by omega)]; exact e5
      · rw [hN 21 (by omega) (by omega) (by omega)]; exact e6
      · show s1.2 r 0 = _
        rw [hs 0 (by omega)]; exact w0
      · show s1.2 r 1 = _
        rw [hs 1 (by omega)]; exact w1
      · intro k hk
        show s1.2 r (8 + k) = -1 ↔ _
        rw [hs (8 + k) (by omega)]; exact w3 k hk
    · refine pa_of (R.2.1 r hrr) (fun c' h1 h2 => ?_) (hg r c) (fun c' h1 h2 => ?_)
      · rw [kS_n c, hK c' (by omega)]
      · by_cases z : c' = 20
        · subst z; rw [hN2, upd_n c]
        · rw [hN c' h1 h2 z]
  · show s1.1 1 0 = 1
    rw [hK 1 (by omega)]; exact R.2.2.1
  · show s1.1 3 0 = -1
    rw [hK 3 (by omega)]; exact R.2.2.2
theorem grow_pair {nf ns p n d : Nat} {φ : Nat → Nat} {L : Nat → Prop} {s t : KS} (R : RQ nf ns φ L s t) (hp : p < 6) (hr : s.1 1 p = 1) (hn : n ≤ 6) (hd : d ≤ 6) (e3 : s.1 5 p = nn d) : ∃ s4 s5 t', p_X1_addPages nf ns (nn p) (nn (2 + d)) (nn (2 + n)) s = some (.inl none, s4) ∧ p_X1_leavePages nf ns (nn p) (nn (2 + n)) (nn (2 + d)) s4 = some (.inl none, s5) ∧ p_X2_grow_L75 400 (nn p) (nn n) (nn 0) t = some (.inl (some (nn n)), t') ∧ RR nf ns (kS s5 5 p (nn n)) t' ∧ t'.1 15 = t.1 15 := by
  obtain ⟨r1, r2, q, d', e, hq, hd', he1, he3, e1, e2, e3', e4, e5, e6, ⟨w0, w1, w2, w3⟩⟩ := rq_run R hp hr
  have : d' = d := nni (by omega) (by omega) (e3'.symm.trans e3)
  subst this
  have ta : ∀ q, q < 6 → TA (t.1 16) (t.1 17) s.2 q := fun q hq => pa_ta (R.2.1 q hq)
  by_cases c : d' ≤ n
  · obtain ⟨φ', L', s1, t1, a1, a2, a3, a4, a5, a6, a7⟩ := gu_loop hp hn hd (n - d') d' 400 (400 - n) φ L s t (by omega) (by omega) (Nat.le_refl _) R.1 (fun j x y => (w2 j y).mpr x) e4
    have m1 := mg_skips (n := n) hp hn e4 hd d' 0 (400 - d') (by omega) (by omega)
    rw [show d' + (400 - d') = 400 by omega, Nat.zero_add, show 400 - d' = (n - d') + (400 - n) by omega, a2] at m1
    have hout : ∀ j, n ≤ j → j < 6 → t1.1 22 (9 * p + j) = -1 := fun j x y => by
      have h0 : s1.2 p (2 + j) = -1 := by rw [a6 p (2 + j) (by omega)]; exact (w2 j y).mpr (by omega)
      rcases a3.2.2.2.2.2.2.2.2.2 p j hp (by omega) id with ⟨_, z⟩ | ⟨P, _, _, hP, z, _⟩
      · exact z
      · rw [h0] at z; exact absurd z.symm (nnm (by omega))
    have m2 := mg_outs (n := n) (t := t1) hp (6 - n) n (400 - n - (6 - n)) (by omega) (Nat.le_refl _) hout
    rw [show 6 - n + (400 - n - (6 - n)) = 400 - n by omega] at m2
    obtain ⟨t2, c1, c2, c3, c4⟩ := clean_p (t := kS t1 20 p (nn n)) a3 (fun r hr => by
      show TA (t1.1 16) (t1.1 17) s1.2 r
      rw [a5.2 16 (by omega) (by omega), a5.2 17 (by omega) (by omega)]
      have := ta r hr
      unfold TA
      rw [a6 r 0 (by omega), a6 r 1 (by omega)]; exact this)
    have m3 := mg_end (f := 400 - n - (6 - n) - 1) hp c1
    rw [show 400 - n - (6 - n) - 1 + 1 = 400 - n - (6 - n) by omega] at m3
    refine ⟨s1, s1, t2, a1, ?_, m1.trans (m2.trans m3), ⟨φ', L', ?_⟩, c3.1.trans a5.1⟩
    · show p_X1_leavePages_L3 nf ns (399 + 1) (nn p) (nn (2 + d')) (nn (2 + n)) s1 = _
      generalize 399 = v
      simp (disch := omega) only [p_X1_leavePages_L3, nn_le, (eq_true (by omega) : (2 + d' ≤ 2 + n) = True), decide_true, cond_true]
    · refine rq_data R hp hr hn c2 a4 (fun c' h1 h2 h3 => ?_) ?_ (fun r hr => ?_) (fun k hk => ?_) (fun k hk => ?_)
      · rw [c3.2 c' h1 h2, kS_m h3]; exact a5.2 c' h1 h2
      · rw [c3.2 20 (by omega) (by omega)]
        show upd (t1.1 20) p (nn n) = _
        rw [a5.2 20 (by omega) (by omega)]
      · funext k
        exact a6 r k (fun x => hr x.1)
      · exact a6 p k (by omega)
      · by_cases z : k < d'
        · rw [a6 p (2 + k) (by omega), w2 k hk]; omega
        · by_cases z2 : k < n
          · exact ⟨fun x => absurd x (a7 k (by omega) z2), fun x => absurd x (by omega)⟩
          · rw [a6 p (2 + k) (by omega), w2 k hk]; omega
  · let X' : Nat → Nat → Prop := fun r k => r = p ∧ n ≤ k ∧ k < 6
    have m1 := mg_skips (n := n) hp hn e4 hd n 0 (400 - n) (by omega) (by omega)
    rw [show n + (400 - n) = 400 by omega, Nat.zero_add] at m1
    obtain ⟨t1, a1, a2, a3, a4, a5⟩ := gd_loop (X := X') hp (fun j x y => ⟨rfl, x, y⟩) (6 - n) n (400 - n - (6 - n)) t (by omega) (Nat.le_refl _) (rx_X X' R.1 (fun _ _ _ _ x => absurd x id))
    rw [show 6 - n + (400 - n - (6 - n)) = 400 - n by omega] at a1
    obtain ⟨s1, L1, G1, b1, b2, b3, b4⟩ := lp_loop (t := kS t1 20 p (nn n)) hp (show 2 + d' ≤ 11 by omega) (d' - n) (2 + n) 400 L noG s (by omega) (by omega) (fun k x y z => ⟨rfl, by omega, by omega⟩) a2
    have b5 := rx_X noX b2 (fun r k _ hk x _ => by
      obtain ⟨rfl, x1, x2⟩ := x
      refine Or.inl ⟨?_, a4 k x1 x2⟩
      rw [b3]
      by_cases z : k < d'
      · rw [if_pos (by omega)]
      · rw [if_neg (by omega)]; exact (w2 k x2).mpr (by omega))
    obtain ⟨t2, c1, c2, c3, c4⟩ := clean_p b5 (fun r hr => by
      show TA (t1.1 16) (t1.1 17) s1.2 r
      rw [a3.2 16 (by omega) (by omega), a3.2 17 (by omega) (by omega)]
      have := ta r hr
      unfold TA
      rw [b3 r 0, b3 r 1, if_neg (by omega), if_neg (by omega)]; exact this)
    have m3 := mg_end (f := 400 - n - (6 - n) - 1) hp c1
    rw [show 400 - n - (6 - n) - 1 + 1 = 400 - n - (6 - n) by omega] at m3
    refine ⟨s, s1, t2, ap_stop (n := 399) (by omega) (by omega) (by omega), b1, m1.trans (a1.trans m3), ⟨φ, L1, ?_⟩, c3.1.trans a3.1⟩
    refine rq_data R hp hr hn c2 b4 (fun c' h1 h2 h3 => ?_) ?_ (fun r hr => ?_) (fun k hk => ?_) (fun k hk => ?_)
    · rw [c3.2 c' h1 h2, kS_m h3]; exact a3.2 c' h1 h2
    · rw [c3.2 20 (by omega) (by omega)]
      show upd (t1.1 20) p (nn n) = _
      rw [a3.2 20 (by omega) (by omega)]
    · funext k
      rw [b3, if_neg (fun x => hr x.1)]
    · rw [b3, if_neg (by omega)]
    · rw [b3]
      by_cases z : n ≤ k ∧ k < d'
      · rw [if_pos (by omega)]; exact ⟨fun _ => z.1, fun _ => rfl⟩
      · rw [if_neg (by omega), w2 k hk]; omega
theorem a_grow {nf ns : Nat} {s t : KS} (x y : Int32) (R : RR nf ns s t) : AG nf ns [(0, 1), (1, 2), (2, 3)] (p_X1_grow nf ns x y s) (p_X2_grow x y t) := by
  have e10 : ¬ (1 : Int32) = 0 := by decide
  rcases split x 6 (by omega) with ⟨p, hp, rfl⟩ | hx
  · have o1 : ∀ t, p_X2_out (nn p) 6 t = some (.inl (some 0), t) := fun t => out_in (n := 6) hp (by omega)
    by_cases y1 : y < -6
    · refine ag_ex (e := 0) (c := 1) (y := 0) (rr_f 1 (rr_f 0 R)) (List.mem_of_getElem? (i := 0) rfl) ?_ ?_ rfl
      · simp only [p_X1_grow, cp_in hp, cr_no (nf := nf) (ns := ns) (s := s) (Or.inl y1 : y < -6 ∨ ¬ y ≤ 6), kbv]
      · simp only [p_X2_grow, o1, kbi, p_X2_fail, eq_true y1, decide_true, cond_true, cond_false, Bool.not_true]
    · by_cases y2 : y ≤ 6
      · have cr : p_X1_checkRange nf ns y (-6) 6 s = _ := cr_ok y1 y2
        obtain ⟨φ, L, R⟩ := R
        have R0 := rq_f 0 R
        by_cases hr : s.1 1 p = 1
        · obtain ⟨r1, r2, q, d, e, hq, hd, he1, he3, e1, e2, e3, e4, e5, e6, _⟩ := rq_run R0 hp hr
          have nr := nr_ok hp r1
          have q20 : (kS t 15 0 0).1 20 p = nn d := e4
          by_cases z1 : nn d + y < 0
          · refine ag_ex (e := 2) (c := 3) (y := 0) ⟨φ, L, rq_f 3 R0⟩ (List.mem_of_getElem? (i := 2) rfl) ?_ ?_ rfl
            · simp (disch := omega) only [p_X1_grow, cp_in hp, cr, ru_ok hp hr, kbv, nn_in, nn_tn, hp, e3, eq_true z1, decide_true, cond_true]
            · simp (disch := omega) only [p_X2_grow, o1, kbi, p_X2_fail, fF y1, eq_true y2, nr, nn_in, nn_tn, hp, q20, eq_true z1, decide_true, decide_false, cond_true, cond_false, Bool.not_true]
          · by_cases z2 : nn d + y ≤ 6
            · obtain ⟨f1, f2⟩ := nn_of (Int32.not_lt.mp z1)
              have hn : (nn d + y).toNatClampNeg ≤ 6 := by
                rw [f1] at z2
                have : nn (nn d + y).toNatClampNeg ≤ nn 6 := z2
                rwa [nn_le f2 (by omega)] at this
              generalize (nn d + y).toNatClampNeg = n at f1 f2 hn
              obtain ⟨s4, s5, t', g1, g2, g3, g4, g5⟩ := grow_pair R0 hp hr hn hd e3
              refine ag_ok (x := nn n) g4 ?_ ?_ (by rw [g5]; rfl)
              · rw [f1] at z1 z2
                simp (disch := omega) only [p_X1_grow, cp_in hp, cr, ru_ok hp hr, kbv, nn_in, nn_tn, hp, e3, f1, fF z1, eq_true z2, nn_2p, g1, g2, decide_true, decide_false, cond_true, cond_false]
              · rw [f1] at z1 z2
                have g3' : p_X2_grow_L75 400 (nn p) (nn n) 0 (kS t 15 0 0) = _ := g3
                simp (disch := omega) only [p_X2_grow, o1, kbi, fF y1, eq_true y2, nr, nn_in, nn_tn, hp, q20, f1, fF z1, eq_true z2, g3', decide_true, decide_false, cond_true, cond_false, Bool.not_true]
            · refine ag_ex (e := 2) (c := 3) (y := 0) ⟨φ, L, rq_f 3 R0⟩ (List.mem_of_getElem? (i := 2) rfl) ?_ ?_ rfl
              · simp (disch := omega) only [p_X1_grow, cp_in hp, cr, ru_ok hp hr, kbv, nn_in, nn_tn, hp, e3, fF z1, fF z2, decide_true, decide_false, cond_true, cond_false]
              · simp (disch := omega) only [p_X2_grow, o1, kbi, p_X2_fail, fF y1, eq_true y2, nr, nn_in, nn_tn, hp, q20, fF z1, fF z2, decide_true, decide_false, cond_true, cond_false, Bool.not_true]
        · have nr := nr_no hp (rq_nrun R0 hp hr)
          refine ag_ex (e := 1) (c := 2) (y := 0) ⟨φ, L, rq_f 2 R0⟩ (List.mem_of_getElem? (i := 1) rfl) ?_ ?_ rfl
          · simp only [p_X1_grow, cp_in hp, cr, ru_no hp hr, kbv]
          · simp only [p_X2_grow, o1, kbi, p_X2_fail, fF y1, eq_true y2, nr, fF e10, decide_true, decide_false, cond_true, cond_false, Bool.not_true]
      · refine ag_ex (e := 0) (c := 1) (y := 0) (rr_f 1 (rr_f 0 R)) (List.mem_of_getElem? (i := 0) rfl) ?_ ?_ rfl
        · simp only [p_X1_grow, cp_in hp, cr_no (nf := nf) (ns := ns) (s := s) (Or.inr y2 : y < -6 ∨ ¬ y ≤ 6), kbv]
        · simp only [p_X2_grow, o1, kbi, p_X2_fail, fF y1, fF y2, decide_true, decide_false, cond_true, cond_false, Bool.not_true]
  · have o1 : ∀ t, p_X2_out x 6 t = some (.inl (some 1), t) := fun t => out_out hx
    refine ag_ex (e := 0) (c := 1) (y := 0) (rr_f 1 (rr_f 0 R)) (List.mem_of_getElem? (i := 0) rfl) ?_ ?_ rfl
    · simp only [p_X1_grow, cp_out hx, kbv]
    · simp only [p_X2_grow, o1, kbi, p_X2_fail, fF e10, decide_true, decide_false, cond_true, cond_false, Bool.not_false]
