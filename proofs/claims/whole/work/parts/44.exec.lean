def rowX (p : Nat) : Nat → Nat → Prop := fun r _ => r = p
theorem md_step {f p k : Nat} {t : KS} (hp : p < 6) (hk : k < 9) : p_X2_drop_L2 (f + 1) (nn p) (nn k) t = p_X2_drop_L2 f (nn p) (nn (k + 1)) (kS t 22 (9 * p + k) (-1)) := by
  simp (disch := omega) only [p_X2_drop_L2, nn_9g, (fF (by omega) : (9 ≤ k) = False), nn_m9, nn_add, nn_in, nn_tn, (by omega : 9 * p + k < 54), nn_p1, decide_true, decide_false, cond_true, cond_false]
theorem md_loop {nf ns p : Nat} {φ : Nat → Nat} {L : Nat → Prop} {ext : Nat → Nat} {G : Nat → Prop} {s : KS} (hp : p < 6) : ∀ (m k f : Nat) (t : KS), k + m = 9 → RX nf ns φ L ext G (rowX p) s t → ∃ t', p_X2_drop_L2 (m + f + 1) (nn p) (nn k) t = some (.inl none, t') ∧ RX nf ns φ L ext G (rowX p) s t' ∧ fixN t t' ∧ (∀ j, k ≤ j → j < 9 → t'.1 22 (9 * p + j) = -1) ∧ (∀ i, i < 9 * p + k → t'.1 22 i = t.1 22 i)
  | 0, k, f, t, h1, R => by
    refine ⟨t, ?_, R, fixN_r t, fun j x y => absurd y (by omega), fun _ _ => rfl⟩
    simp (disch := omega) only [p_X2_drop_L2, nn_9g, (eq_true (by omega) : (9 ≤ k) = True), decide_true, cond_true]
  | m + 1, k, f, t, h1, R => by
    obtain ⟨t', a1, a2, a3, a4, a5⟩ := md_loop hp m (k + 1) f (kS t 22 (9 * p + k) (-1)) (by omega) (rx_tp R (by omega) rfl)
    refine ⟨t', ?_, a2, fixN_t (fixN_s (fixN_r t) 22 _ _ (by omega)) a3, fun j x y => ?_, fun i x => ?_⟩
    · rw [show m + 1 + f + 1 = (m + f + 1) + 1 by omega, md_step hp (by omega)]; exact a1
    · by_cases c : j = k
      · subst c
        rw [a5 _ (by omega)]; exact upd_a _ _ _
      · exact a4 j (by omega) y
    · rw [a5 i (by omega)]
      exact upd_n (by omega)
/-- the reference drops the places of a process -/
theorem md_p {nf ns p : Nat} {φ : Nat → Nat} {L : Nat → Prop} {ext : Nat → Nat} {G : Nat → Prop} {s t : KS} (hp : p < 6) (R : RX nf ns φ L ext G noX s t) : ∃ t', p_X2_drop (nn p) t = some (.inl none, t') ∧ RX nf ns φ L ext G (rowX p) s t' ∧ fixN t t' ∧ (∀ j, j < 9 → t'.1 22 (9 * p + j) = -1) := by
  obtain ⟨t', a1, a2, a3, a4, a5⟩ := md_loop hp 9 0 390 t (by omega) (rx_X (rowX p) R (fun _ _ _ _ x => absurd x id))
  exact ⟨t', a1, a2, a3, fun j hj => a4 j (by omega) hj⟩
/-! text joined and bound -/
def eS (ext : Nat → Nat) (P v : Nat) : Nat → Nat := fun Q => if Q = P then v else ext Q
theorem eS_a (ext : Nat → Nat) (P v : Nat) : eS ext P v P = v := if_pos rfl
theorem eS_n {ext : Nat → Nat} {P v Q : Nat} (h : Q ≠ P) : eS ext P v Q = ext Q := if_neg h
theorem join_p {nf ns P : Nat} {s : KS} (hP : P < 60) : p_X0_join nf ns (nn P) s = some (.inl none, kS s 10 P (s.1 10 P + 1)) := by
  simp (disch := omega) only [p_X0_join, nn_in, nn_tn, hP, decide_true, cond_true]
theorem rx_join {nf ns P : Nat} {φ : Nat → Nat} {L : Nat → Prop} {ext : Nat → Nat} {X : Nat → Nat → Prop} {s t : KS} (R : RX nf ns φ L ext noG X s t) (hP : P < 6) (he : ext P = 0) : RX nf ns φ (fun Q => L Q ∨ Q = P) (eS ext P 1) noG X (kS s 10 P (s.1 10 P + 1)) t := by
  obtain ⟨hb, hC, hM, ⟨l1, l2, l3, l4, l5, l6, l7, l8⟩, hT, hU, hD, hW, hI, hE⟩ := R
  have kp := l7 P hP
  have own : ∀ Q, L Q → φ Q = 64 + P → Q = P := fun Q a b => by
    by_cases c : Q < 6
    · have := l7 Q c; omega
    · have := (l1 Q a).2.2.1 (by omega); omega
  have hta : ¬ L P → t.1 25 (φ P) = s.1 11 P := fun h => by
    rw [l5 P (by omega) h, kp]
    rcases l4 (64 + P) (by omega) with z | ⟨Q, a, b⟩ | z
    · exact z
    · exact absurd (own Q a b ▸ a) h
    · exact absurd z id
  refine ⟨hb, hC, hM, ⟨fun Q hQ => ?_, fun Q hQ => ?_, fun Q Q' a b => ?_, fun k hk => ?_, fun Q hQ h => l5 Q hQ (fun x => h (Or.inl x)), l6, l7, l8⟩, hT, fun Q hQ => ?_, fun K hK => ?_, ⟨fun Q i a b c => ?_, hW.2⟩, hI, fun q j hq hj hx => ?_⟩
  · rcases hQ with h | rfl
    · exact l1 Q h
    · exact ⟨by omega, by omega, fun x => absurd x (by omega), id⟩
  · rcases hQ with h | rfl
    · exact l2 Q h
    · by_cases c : L Q
      · exact l2 Q c
      · exact hta c
  · rcases a with a | rfl <;> rcases b with b | rfl
    · exact l3 Q Q' a b
    · rw [kp]; exact own Q a
    · rw [kp]; exact fun z => (own Q' b z.symm).symm
    · exact fun _ => rfl
  · rcases l4 k hk with h | ⟨Q, a, b⟩ | h
    · exact Or.inl h
    · exact Or.inr (Or.inl ⟨Q, Or.inl a, b⟩)
    · exact Or.inr (Or.inr h)
  · show upd (s.1 10) P (s.1 10 P + 1) Q = nn (uc s.2 Q + eS ext P 1 Q) ∧ _
    obtain ⟨u1, u2, u3⟩ := hU Q hQ
    by_cases c : Q = P
    · subst c
      rw [eS_a, upd_a, u1, he, nn_p1]
      exact ⟨rfl, ⟨fun _ => Nat.succ_pos _, fun _ => Or.inr rfl⟩, Nat.le_refl _⟩
    · rw [eS_n c, upd_n c]
      exact ⟨u1, ⟨fun x => u2.mp (x.elim id (fun y => absurd y c)), fun x => Or.inl (u2.mpr x)⟩, u3⟩
  · refine ⟨(hD K hK).1, (hD K hK).2.trans ⟨fun x => ?_, fun x => ?_⟩⟩
    · rcases x with ⟨Q, a, b⟩ | x
      · exact Or.inl ⟨Q, Or.inl a, b⟩
      · exact Or.inr x
    · rcases x with ⟨Q, a | rfl, b⟩ | x
      · exact Or.inl ⟨Q, a, b⟩
      · omega
      · exact Or.inr x
  · rcases a with a | rfl
    · exact hW.1 Q i a b c
    · omega
  · rcases hE q j hq hj hx with h | ⟨Q, a, b⟩
    · exact Or.inl h
    · exact Or.inr ⟨Q, Or.inl a, b⟩
theorem rx_bind {nf ns P p k : Nat} {φ : Nat → Nat} {L : Nat → Prop} {ext : Nat → Nat} {G : Nat → Prop} {X : Nat → Nat → Prop} {s t : KS} (R : RX nf ns φ L ext G X s t) (hp : p < 6) (hk : k < 2) (hP : P < 6) (he : ext P = 1) (e : s.2 p k = -1) : RX nf ns φ L (eS ext P 0) G X (kG s p k (nn P)) t := by
  obtain ⟨hb, hC, hM, hL, hT, hU, hD, hW, hI, hE⟩ := R
  refine ⟨hb, hC, hM, hL, hT, fun Q hQ => ?_, hD, hW, fun q j hq hj => ?_, fun q j hq hj hx => ?_⟩
  · show s.1 10 Q = nn (uc (tS s.2 p k (nn P)) Q + eS ext P 0 Q) ∧ (_ ↔ 0 < uc (tS s.2 p k (nn P)) Q + eS ext P 0 Q) ∧ _
    have h := uc_set (g := s.2) (P := Q) (x := nn P) hp (show k < 11 by omega)
    rw [e, if_neg (fun z : (-1 : Int32) = nn Q => nnm (by omega) z.symm)] at h
    obtain ⟨u1, u2, u3⟩ := hU Q hQ
    by_cases c : Q = P
    · subst c
      rw [if_pos rfl] at h
      rw [he] at u1 u2
      rw [eS_a, show uc (tS s.2 p k (nn Q)) Q + 0 = uc s.2 Q + 1 by omega]
      exact ⟨u1, u2, Nat.zero_le 1⟩
    · rw [if_neg (fun z => c (nni (by omega) (by omega) z).symm)] at h
      have h' : uc (tS s.2 p k (nn P)) Q = uc s.2 Q := h
      rw [h', eS_n c]
      exact ⟨u1, u2, u3⟩
  · show tS s.2 p k (nn P) q j = -1 ∨ _
    have : (kG s p k (nn P)).2 q j = tS s.2 p k (nn P) q j := rfl
    rw [this, tS_e]
    by_cases c : q = p ∧ j = k
    · rw [if_pos c]
      exact Or.inr ⟨P, by omega, rfl, fun _ => hP, fun _ => by omega⟩
    · rw [if_neg c]; exact hI q j hq hj
  · show EE φ L (tS s.2 p k (nn P) q (2 + j)) _
    rw [tS_e, if_neg (by omega)]
    exact hE q j hq hj hx
theorem rx_ext {nf ns : Nat} {φ : Nat → Nat} {L : Nat → Prop} {ext ext' : Nat → Nat} {G : Nat → Prop} {X : Nat → Nat → Prop} {s t : KS} (R : RX nf ns φ L ext G X s t) (h : ∀ Q, ext Q = ext' Q) : RX nf ns φ L ext' G X s t := by
  have : ext = ext' := funext h
  exact this ▸ R
/-! begin -/
def dq (q : Nat) : Nat := if q = 0 then 1 else if q = 1 then 2 else 4
theorem dq_le (q : Nat) : 1 ≤ dq q ∧ dq q ≤ 4 := by unfold dq; split <;> (try split) <;> omega
theorem mb_new {f p k d : Nat} {x : Int32} {t t1 : KS} (hp : p < 6) (hk : k < 9) (e : t.1 20 p = nn d) (hd : d ≤ 6) (h : k < d) (hnp : p_X2_newPage t = some (.inl (some x), t1)) : p_X2_begin_L33 (f + 1) (nn p) (nn k) t = p_X2_begin_L33 f (nn p) (nn (k + 1)) (kS t1 22 (9 * p + k) x) := by
  simp (disch := omega) only [p_X2_begin_L33, nn_9g, (fF (by omega) : (9 ≤ k) = False), nn_lt, h, nn_in, nn_tn, hp, e, hnp, kbi, nn_m9, nn_add, (by omega : 9 * p + k < 54), nn_p1, decide_true, decide_false, cond_true, cond_false]
theorem nn_e8 {a : Nat} (h : a < 2147483648) : (nn a = 8) = (a = 8) := nn_eq (a := a) (b := 8) h (by omega)
theorem mb_skip {f p k d : Nat} {t : KS} (hp : p < 6) (hk : k < 8) (e : t.1 20 p = nn d) (hd : d ≤ 6) (h : d ≤ k) : p_X2_begin_L33 (f + 1) (nn p) (nn k) t = p_X2_begin_L33 f (nn p) (nn (k + 1)) (kS t 22 (9 * p + k) (-1)) := by
  simp (disch := omega) only [p_X2_begin_L33, nn_9g, (fF (by omega) : (9 ≤ k) = False), nn_lt, (fF (by omega) : (k < d) = False), nn_e8, (fF (by omega) : (k = 8) = False), nn_in, nn_tn, hp, e, nn_m9, nn_add, (by omega : 9 * p + k < 54), nn_p1, decide_true, decide_false, Bool.not_false, cond_true, cond_false]
theorem mb_last {f p d : Nat} {x : Int32} {t t1 : KS} (hp : p < 6) (e : t.1 20 p = nn d) (hd : d ≤ 6) (hnp : p_X2_newPage t = some (.inl (some x), t1)) : p_X2_begin_L33 (f + 2) (nn p) (nn 8) t = some (.inl none, kS t1 22 (9 * p + 8) x) := by
  have k8 : ∀ k, k = 8 → p_X2_begin_L33 ((f + 1) + 1) (nn p) (nn k) t = p_X2_begin_L33 (f + 1) (nn p) (nn (k + 1)) (kS t1 22 (9 * p + k) x) := fun k hk => by
    generalize f + 1 = v
    simp (disch := omega) only [p_X2_begin_L33, nn_9g, (fF (by omega) : (9 ≤ k) = False), nn_lt, (fF (by omega) : (k < d) = False), nn_e8, (eq_true hk : (k = 8) = True), nn_in, nn_tn, hp, e, hnp, kbi, nn_m9, nn_add, (by omega : 9 * p + k < 54), nn_p1, decide_true, decide_false, Bool.not_true, cond_true, cond_false]
  have k9 : ∀ k t, k = 9 → p_X2_begin_L33 (f + 1) (nn p) (nn k) t = some (.inl none, t) := fun k t hk => by
    simp (disch := omega) only [p_X2_begin_L33, nn_9g, (eq_true (by omega) : (9 ≤ k) = True), decide_true, cond_true]
  exact (k8 8 rfl).trans (k9 9 _ rfl)
theorem mb_skips {p d : Nat} {t : KS} (hp : p < 6) (e : t.1 20 p = nn d) (hd : d ≤ 6) : ∀ (m k f : Nat), k + m = 8 → d ≤ k → (∀ j, k ≤ j → j < 8 → t.1 22 (9 * p + j) = -1) → p_X2_begin_L33 (m + f) (nn p) (nn k) t = p_X2_begin_L33 f (nn p) (nn 8) t
  | 0, k, f, h1, h2, h => by rw [Nat.zero_add, show k = 8 by omega]
  | m + 1, k, f, h1, h2, h => by
    rw [show m + 1 + f = (m + f) + 1 by omega, mb_skip hp (by omega) e hd h2, kS_id (h k (by omega) (by omega)), mb_skips hp e hd m (k + 1) f (by omega) (by omega) (fun j x y => h j (by omega) y)]
theorem bg_loop {nf ns p d : Nat} (hp : p < 6) (hd : d ≤ 6) : ∀ (m k cf mf : Nat) (φ : Nat → Nat) (L : Nat → Prop) (s t : KS), k + m = d → m < cf → RX nf ns φ L no0 noG noX s t → (∀ j, k ≤ j → j < 9 → s.2 p (2 + j) = -1) → t.1 20 p = nn d → ∃ φ' L' s' t', p_X1_addPages_L3 nf ns cf (nn p) (nn (2 + d)) (nn (2 + k)) s = some (.inl none, s') ∧ p_X2_begin_L33 (m + mf) (nn p) (nn k) t = p_X2_begin_L33 mf (nn p) (nn d) t' ∧ RX nf ns φ' L' no0 noG noX s' t' ∧ fixK s s' ∧ fixN t t' ∧ (∀ q j, ¬ (q = p ∧ 2 + k ≤ j ∧ j < 2 + d) → s'.2 q j = s.2 q j) ∧ (∀ j, k ≤ j → j < d → ¬ s'.2 p (2 + j) = -1)
  | 0, k, cf + 1, mf, φ, L, s, t, h1, h2, R, h4, h5 => by
    refine ⟨φ, L, s, t, ap_stop (by omega) (by omega) (by omega), ?_, R, fixK_r s, fixN_r t, fun q j _ => rfl, fun j x y => absurd y (by omega)⟩
    rw [Nat.zero_add, show k = d by omega]
  | m + 1, k, cf + 1, mf, φ, L, s, t, h1, h2, R, h4, h5 => by
    obtain ⟨P, K, s1, t1, φ1, L1, hP, hK, b1, b2, b3, b4, b5, b6, b7⟩ := rx_alloc R (fun _ _ => rfl) hp (show k < 9 by omega) (h4 k (by omega) (by omega))
    have g1 : ∀ q j, (kG s1 p (2 + k) (nn P)).2 q j = if q = p ∧ j = 2 + k then nn P else s.2 q j := fun q j => by
      show tS s1.2 p (2 + k) (nn P) q j = _
      rw [tS_e, b4]
    obtain ⟨φ', L', s', t', a1, a2, a3, a4, a5, a6, a7⟩ := bg_loop hp hd m (k + 1) cf mf φ1 L1 _ _ (by omega) (by omega) b3 (fun j x y => by rw [g1, if_neg (by omega)]; exact h4 j (by omega) y) (by
      show t1.1 20 p = nn d
      rw [b7.2 20 (by omega) (by omega)]; exact h5)
    refine ⟨φ', L', s', t', ?_, ?_, a3, fixK_t b6 a4, fixN_t (fixN_s b7 22 _ _ (by omega)) a5, fun q j h => ?_, fun j x y => ?_⟩
    · rw [ap_step hp (by omega) (by omega) b1]; exact a1
    · rw [show m + 1 + mf = (m + mf) + 1 by omega, mb_new hp (by omega) h5 hd (by omega) b2]; exact a2
    · rw [a6 q j (by omega), g1, if_neg (by omega)]
    · by_cases c : j = k
      · subst c
        rw [a6 p (2 + j) (by omega), g1, if_pos ⟨rfl, rfl⟩]; exact nnm (by omega)
      · exact a7 j (by omega) y
theorem dq_0 : dq 0 = 1 := rfl
theorem dq_n {q : Nat} (h : ¬ q = 0) (hq : q < 3) : dq q = 2 * q := by
  unfold dq
  rw [if_neg h]
  split <;> omega
theorem begin_0 {p q : Nat} {t : KS} (hp : p < 6) (c : q = 0) : p_X2_begin (nn p) (nn q) t = p_X2_begin_L33 400 (nn p) 0 (kS (kS (kS t 17 p (nn q)) 20 p 1) 21 p 1) := by
  have e : decide (nn q = 0) = true := decide_eq_true (by rw [nn_e0 (by omega)]; exact c)
  unfold p_X2_begin
  rw [e, nn_in (show p < 2147483648 by omega), decide_eq_true hp, nn_tn (show p < 2147483648 by omega)]
  generalize p_X2_begin_L33 400 = W
  rfl
theorem begin_n {p q : Nat} {t : KS} (hp : p < 6) (hq : q < 3) (c : ¬ q = 0) : p_X2_begin (nn p) (nn q) t = p_X2_begin_L33 400 (nn p) 0 (kS (kS (kS t 17 p (nn q)) 20 p (nn (2 * q))) 21 p 1) := by
  have e : decide (nn q = 0) = false := decide_eq_false (by rw [nn_e0 (by omega)]; exact c)
  unfold p_X2_begin
  rw [e, nn_in (show p < 2147483648 by omega), decide_eq_true hp, nn_tn (show p < 2147483648 by omega), nn_m2]
  generalize p_X2_begin_L33 400 = W
  rfl
theorem begin_e {p q : Nat} {t : KS} (hp : p < 6) (hq : q < 3) : p_X2_begin (nn p) (nn q) t = p_X2_begin_L33 400 (nn p) 0 (kS (kS (kS t 17 p (nn q)) 20 p (nn (dq q))) 21 p 1) := by
  by_cases c : q = 0
  · rw [begin_0 hp c, c, dq_0, show nn 1 = 1 from rfl]
  · rw [begin_n hp hq c, dq_n c hq]
/-- a program's pages are made, in class and reference -/
theorem begin_pair {nf ns p q : Nat} {φ : Nat → Nat} {L : Nat → Prop} {s t : KS} (R : RX nf ns φ L no0 noG noX s t) (hp : p < 6) (hq : q < 3) (h0 : s.2 p 0 = nn (2 * q)) (h1 : s.2 p 1 = nn (2 * q + 1)) (hrow : ∀ k, k < 9 → s.2 p (2 + k) = -1) : ∃ φ' L' s6 s7 t', p_X1_addPages nf ns (nn p) 2 (nn (2 + dq q)) (kS (kS (kS s 2 p (nn q)) 5 p (nn (dq q))) 6 p 1) = some (.inl none, s6) ∧ p_X1_addPages nf ns (nn p) 10 11 s6 = some (.inl none, s7) ∧ p_X2_begin (nn p) (nn q) t = some (.inl none, t') ∧ RX nf ns φ' L' no0 noG noX s7 t' ∧ fixK (kS (kS (kS s 2 p (nn q)) 5 p (nn (dq q))) 6 p 1) s7 ∧ fixN (kS (kS (kS t 17 p (nn q)) 20 p (nn (dq q))) 21 p 1) t' ∧ (∀ r, r ≠ p → s7.2 r = s.2 r) ∧ SH q (dq q) 1 (s7.2 p) := by
  have hd := dq_le q
  generalize hD : dq q = d at hd ⊢
  have R5 : RX nf ns φ L no0 noG noX (kS (kS (kS s 2 p (nn q)) 5 p (nn d)) 6 p 1) (kS (kS (kS t 17 p (nn q)) 20 p (nn d)) 21 p 1) := R
  have q20 : (kS (kS (kS t 17 p (nn q)) 20 p (nn d)) 21 p 1).1 20 p = nn d := upd_a _ _ _
  obtain ⟨φ', L', s6, t6, a1, a2, a3, a4, a5, a6, a7⟩ := bg_loop hp (show d ≤ 6 by omega) d 0 400 (400 - d) φ L _ _ (by omega) (by omega) R5 (fun j x y => hrow j y) q20
  rw [show d + (400 - d) = 400 by omega] at a2
  have q20' : t6.1 20 p = nn d := by rw [a5.2 20 (by omega) (by omega)]; exact q20
  have r6 : ∀ j, d ≤ j → j < 9 → s6.2 p (2 + j) = -1 := fun j x y => by rw [a6 p (2 + j) (by omega)]; exact hrow j y
  have m2 := mb_skips (t := t6) hp q20' (by omega) (8 - d) d (400 - d - (8 - d)) (by omega) (Nat.le_refl _) (fun j x y => by
    rcases a3.2.2.2.2.2.2.2.2.2 p j hp (by omega) id with ⟨_, z⟩ | ⟨P, _, _, hP, z, _⟩
    · exact z
    · rw [r6 j x (by omega)] at z; exact absurd z.symm (nnm (by omega)))
  rw [show 8 - d + (400 - d - (8 - d)) = 400 - d by omega] at m2
  obtain ⟨P, K, s7, t7, φ7, L7, hP, hK, b1, b2, b3, b4, b5, b6, b7⟩ := rx_alloc a3 (fun _ _ => rfl) hp (show 8 < 9 by omega) (r6 8 (by omega) (by omega))
  have m3 := mb_last (f := 400 - d - (8 - d) - 2) hp q20' (by omega) b2
  rw [show 400 - d - (8 - d) - 2 + 2 = 400 - d - (8 - d) by omega] at m3
  have g7 : ∀ r j, (kG s7 p (2 + 8) (nn P)).2 r j = if r = p ∧ j = 10 then nn P else s6.2 r j := fun r j => by
    show tS s7.2 p (2 + 8) (nn P) r j = _
    rw [tS_e, b4]
  refine ⟨φ7, L7, s6, _, _, a1, ?_, ?_, b3, fixK_t a4 b6, fixN_t a5 (fixN_s b7 22 _ _ (by omega)), fun r hr => ?_, ?_, ?_, fun k hk => ?_, fun k hk => ?_⟩
  · show p_X1_addPages_L3 nf ns ((398 + 1) + 1) (nn p) (nn 11) (nn 10) s6 = _
    rw [ap_step hp (by omega) (by omega) b1]
    exact ap_stop (by omega) (by omega) (by omega)
  · rw [begin_e hp hq, hD]
    have a2' : p_X2_begin_L33 400 (nn p) 0 (kS (kS (kS t 17 p (nn q)) 20 p (nn d)) 21 p 1) = _ := a2
    rw [a2', m2, m3]
  · funext j
    rw [g7, if_neg (fun x => hr x.1)]
    exact a6 r j (fun x => hr x.1)
  · rw [g7, if_neg (by omega), a6 p 0 (by omega)]; exact h0
  · rw [g7, if_neg (by omega), a6 p 1 (by omega)]; exact h1
  · rw [g7, if_neg (by omega)]
    by_cases c : k < d
    · exact ⟨fun x => absurd x (a7 k (by omega) c), fun x => absurd x (by omega)⟩
    · exact ⟨fun _ => by omega, fun _ => r6 k (by omega) (by omega)⟩
  · rw [g7]
    by_cases c : k = 2
    · subst c
      rw [if_pos ⟨rfl, rfl⟩]
      exact ⟨fun x => absurd x (nnm (by omega)), fun x => absurd x (by omega)⟩
    · rw [if_neg (by omega), show 8 + k = 2 + (6 + k) by omega, r6 (6 + k) (by omega) (by omega)]
      exact ⟨fun _ => by omega, fun _ => rfl⟩
