theorem lp_id {nf ns p : Nat} {s : KS} (hp : p < 6) (h : ∀ k, k < 11 → s.2 p k = -1) : ∀ (m i n : Nat), i + m = 11 → m < n → p_X1_leavePages_L3 nf ns n (nn p) (nn 11) (nn i) s = some (.inl none, s)
  | 0, i, n + 1, h1, h2 => by
    simp (disch := omega) only [p_X1_leavePages_L3, nn_le, (eq_true (by omega) : (11 ≤ i) = True), decide_true, cond_true]
  | m + 1, i, n + 1, h1, h2 => by
    have ih := lp_id (nf := nf) (ns := ns) hp h m (i + 1) n (by omega) (by omega)
    simp (disch := omega) only [p_X1_leavePages_L3, nn_le, (fF (by omega) : (11 ≤ i) = False), nn_in, nn_tn, hp, (by omega : i < 11), h i (by omega), nn_p1, ih, Bool.and_self, decide_true, decide_false, cond_true, cond_false]
theorem rx_start {nf ns : Nat} {s t : KS} (hb : 2 ≤ nf ∧ nf ≤ 10 ∧ ns ≤ 20) (K : KB nf ns s) (M : MB nf ns t) : RX nf ns (fun P => 64 + P) (fun _ => False) no0 noG noX s t := by
  obtain ⟨k1, k3, k8, k10, k13, k2, k11, k12, k14, k9⟩ := K
  obtain ⟨m0, m1, m2, m16, m17, m18, m19, n16, n18, n24, n28, n22, n25, n26⟩ := M
  have u0 : ∀ P, P < 60 → uc s.2 P = 0 := fun P hP => by
    refine Nat.eq_zero_of_not_pos (fun h => ?_)
    obtain ⟨p, k, hp, hk, e⟩ := uc_pos.mp h
    rw [k2 p k hp hk] at e
    exact nnm (by omega) e.symm
  have z01 : ∀ i : Nat, (0 : Int32) = 1 → False := fun _ h => absurd h (by decide)
  refine ⟨hb, ⟨fun P hP => Or.inl (k11 P hP), fun P f hP hf => ?_, fun P i hP hi => ?_, fun f hf => Or.inl (k12 f hf), fun i hi => Or.inl (k14 i hi), fun f hf => Or.inl (by rw [k13])⟩, ⟨fun k hk => Or.inl (n25 k hk), fun k f hk hf => ?_, fun k i hk hi h => ?_, fun f hf => Or.inl (n26 f (by omega)), fun i hi => Or.inl (by rw [n28]), fun i hi h => ?_, fun k k' i hk hk' hi h => ?_, fun f h1 h2 => n26 f h2⟩, ⟨fun P h => absurd h id, fun P h => absurd h id, fun P Q h => absurd h id, fun k hk => Or.inl (n25 k hk), fun P hP _ => k11 P hP, fun f hf => Or.inl (k12 f hf), fun P hP => rfl, fun k h => absurd h id⟩, ⟨⟨0, by omega, by rw [k8]; rfl, m16⟩, m1, m2, by rw [k8, m17], by rw [k8, m18], by rw [k8, m19]⟩, fun P hP => ?_, fun K hK => ?_, ⟨fun P i h => absurd h id, k9⟩, fun p k hp hk => Or.inl (k2 p k hp hk), fun p k hp hk _ => Or.inl ⟨k2 p (2 + k) hp (by omega), n22 _ (by omega)⟩⟩
  · rw [k11 P hP, k12 f hf]
    exact ⟨fun h => absurd h.symm (nnm (by omega)), fun h => absurd h.symm (nnm (by omega))⟩
  · rw [k11 P hP, k14 i hi]
    exact ⟨fun h => absurd h.symm (nnm (by omega)), fun h => absurd h.symm (nnm (by omega))⟩
  · rw [n25 k hk, n26 f (by omega)]
    exact ⟨fun h => absurd h.symm (nnm (by omega)), fun h => absurd h.symm (nnm (by omega))⟩
  · rw [n25 k hk] at h; exact absurd h.symm (nnm (by omega))
  · rw [n28] at h
    have h : (0 : Int32) = 1 := h
    exact absurd h (by decide)
  · rw [n25 k hk] at h; exact absurd h.symm (nnm (by omega))
  · show s.1 10 P = nn (uc s.2 P + 0) ∧ (False ↔ 0 < uc s.2 P + 0) ∧ 0 ≤ 1
    rw [u0 P hP, k10]
    exact ⟨rfl, ⟨fun h => absurd h id, fun h => absurd h (by omega)⟩, by omega⟩
  · rw [n24]
    exact ⟨Or.inl rfl, ⟨fun h => z01 0 h |>.elim, fun h => by rcases h with ⟨_, h, _⟩ | h; exact absurd h id; exact absurd h id⟩⟩
theorem start_gen {nf ns p q : Nat} {φ : Nat → Nat} {L : Nat → Prop} {s t : KS} (R : RX nf ns φ L no0 noG noX s t) (hp : p < 6) (hq : q < 3) (hrow : ∀ k, k < 11 → s.2 p k = -1) : ∃ φ' L' s7 t3, p_X1_startProgram nf ns (nn p) (nn q) s = some (.inl none, s7) ∧ p_X2_begin (nn p) (nn q) t = some (.inl none, t3) ∧ RX nf ns φ' L' no0 noG noX s7 t3 ∧ (∀ c, c < 8 → c ≠ 2 → c ≠ 5 → c ≠ 6 → s7.1 c = s.1 c) ∧ s7.1 2 p = nn q ∧ s7.1 5 p = nn (dq q) ∧ s7.1 6 p = nn 1 ∧ t3.1 16 = t.1 16 ∧ t3.1 18 = t.1 18 ∧ t3.1 17 p = nn q ∧ t3.1 20 p = nn (dq q) ∧ t3.1 21 p = nn 1 ∧ (∀ r, r ≠ p → s7.2 r = s.2 r) ∧ SH q (dq q) 1 (s7.2 p) := by
  have J1 := rx_join R (show 2 * q + 0 < 6 by omega) rfl
  have J2 := rx_join J1 (show 2 * q + 1 < 6 by omega) (by rw [eS_n (by omega)]; rfl)
  have lp0 := lp_id (nf := nf) (ns := ns) (s := kS (kS s 10 (2 * q + 0) (s.1 10 (2 * q + 0) + 1)) 10 (2 * q + 1) ((kS s 10 (2 * q + 0) (s.1 10 (2 * q + 0) + 1)).1 10 (2 * q + 1) + 1)) hp (fun k hk => hrow k hk) 11 0 400 (by omega) (by omega)
  have B1 := rx_bind (k := 0) J2 hp (by omega) (show 2 * q + 0 < 6 by omega) (by rw [eS_n (by omega), eS_a]) (hrow 0 (by omega))
  have B2 := rx_bind (k := 1) B1 hp (by omega) (show 2 * q + 1 < 6 by omega) (by rw [eS_n (by omega), eS_a]) (by
    show tS s.2 p 0 _ p 1 = -1
    rw [tS_e, if_neg (by omega)]; exact hrow 1 (by omega))
  have B3 := rx_ext (ext' := no0) B2 (fun Q => by
    by_cases c1 : Q = 2 * q + 1
    · rw [c1, eS_a]; rfl
    · rw [eS_n c1]
      by_cases c0 : Q = 2 * q + 0
      · rw [c0, eS_a]; rfl
      · rw [eS_n c0, eS_n c1, eS_n c0])
  have c3 : ∀ c, c < 8 → (kS (kS s 10 (2 * q + 0) (s.1 10 (2 * q + 0) + 1)) 10 (2 * q + 1) ((kS s 10 (2 * q + 0) (s.1 10 (2 * q + 0) + 1)).1 10 (2 * q + 1) + 1)).1 c = s.1 c := fun c hc => by rw [kS_m (by omega), kS_m (by omega)]
  have g3 : (kS (kS s 10 (2 * q + 0) (s.1 10 (2 * q + 0) + 1)) 10 (2 * q + 1) ((kS s 10 (2 * q + 0) (s.1 10 (2 * q + 0) + 1)).1 10 (2 * q + 1) + 1)).2 = s.2 := rfl
  obtain ⟨s3, hs3⟩ : ∃ s3, kS (kS s 10 (2 * q + 0) (s.1 10 (2 * q + 0) + 1)) 10 (2 * q + 1) ((kS s 10 (2 * q + 0) (s.1 10 (2 * q + 0) + 1)).1 10 (2 * q + 1) + 1) = s3 := ⟨_, rfl⟩
  have lp : p_X1_leavePages nf ns (nn p) 0 11 (kS (kS s 10 (2 * q + 0) (s.1 10 (2 * q + 0) + 1)) 10 (2 * q + 1) ((kS s 10 (2 * q + 0) (s.1 10 (2 * q + 0) + 1)).1 10 (2 * q + 1) + 1)) = some (.inl none, s3) := by
    rw [← hs3]; exact lp0
  rw [hs3] at B3 c3 g3
  have g4 : ∀ r j, (kG (kG s3 p 0 (nn (2 * q + 0))) p 1 (nn (2 * q + 1))).2 r j = if r = p ∧ j = 1 then nn (2 * q + 1) else if r = p ∧ j = 0 then nn (2 * q) else s.2 r j := fun r j => by
    show tS (tS s3.2 p 0 (nn (2 * q + 0))) p 1 (nn (2 * q + 1)) r j = _
    rw [tS_e, tS_e, g3]; rfl
  obtain ⟨φ', L', s6, s7, t3, e1, e2, e3, e4, e5, e6, e7, e8⟩ := begin_pair B3 hp hq (by rw [g4, if_neg (by omega), if_pos ⟨rfl, rfl⟩]) (by rw [g4, if_pos ⟨rfl, rfl⟩]) (fun k hk => by rw [g4, if_neg (by omega), if_neg (by omega)]; exact hrow (2 + k) (by omega))
  refine ⟨φ', L', s7, t3, sp_p hp hq lp e1 e2, e3, e4, fun c h1 h2 h5 h6 => ?_, ?_, ?_, ?_, ?_, ?_, ?_, ?_, ?_, fun r hr => ?_, e8⟩
  · rw [e5 c h1, kS_m h6, kS_m h5, kS_m h2]
    exact c3 c h1
  · rw [e5 2 (by omega)]; exact upd_a _ _ _
  · rw [e5 5 (by omega)]; exact upd_a _ _ _
  · rw [e5 6 (by omega)]; exact upd_a _ _ _
  · rw [e6.2 16 (by omega) (by omega)]; rfl
  · rw [e6.2 18 (by omega) (by omega)]; rfl
  · rw [e6.2 17 (by omega) (by omega)]; exact upd_a _ _ _
  · rw [e6.2 20 (by omega) (by omega)]; exact upd_a _ _ _
  · rw [e6.2 21 (by omega) (by omega)]; exact upd_a _ _ _
  · rw [e7 r hr]
    funext j
    rw [g4, if_neg (fun x => hr x.1), if_neg (fun x => hr x.1)]
theorem start_pair {nf ns : Nat} {s t : KS} (hb : 2 ≤ nf ∧ nf ≤ 10 ∧ ns ≤ 20) (K : KB nf ns s) (M : MB nf ns t) : ∃ s' t', p_X1_startProgram nf ns (nn 0) (nn 0) s = some (.inl none, s') ∧ p_X2_begin (nn 0) (nn 0) t = some (.inl none, t') ∧ RR nf ns s' t' := by
  have R := rx_start hb K M
  obtain ⟨k1, k3, k8, k10, k13, k2, k11, k12, k14, k9⟩ := K
  obtain ⟨m0, m1, m2, m16, m17, m18, m19, n16, n18, n24, n28, n22, n25, n26⟩ := M
  obtain ⟨φ', L', s7, t3, a1, a2, a3, a4, a5, a6, a7, a8, a9, a10, a11, a12, a13, a14⟩ := start_gen (p := 0) (q := 0) R (by omega) (by omega) (fun k hk => k2 0 k (by omega) hk)
  refine ⟨s7, t3, a1, a2, φ', L', a3, fun r hr => ?_, ?_, ?_⟩
  · by_cases c : r = 0
    · subst c
      have x1 : s7.1 1 0 = 1 := by rw [a4 1 (by omega) (by omega) (by omega) (by omega), k1]; rfl
      have x2 : t3.1 16 0 = 1 := by rw [a8, n16]; rfl
      have x3 : s7.1 3 0 = t3.1 18 0 := by rw [a4 3 (by omega) (by omega) (by omega) (by omega), k3 0 (by omega), a9, n18]
      exact ⟨x1.trans x2.symm, Or.inl ⟨x1, x3, 0, dq 0, 1, by omega, by have := dq_le 0; omega, by omega, by omega, a5, a10, a6, a11, a7, a12, a14⟩⟩
    · have s1r : s7.1 1 r = 0 := by rw [a4 1 (by omega) (by omega) (by omega) (by omega), k1, upd_n c]
      refine ⟨?_, Or.inr (Or.inl ⟨s1r, ?_, fun k hk => ?_⟩)⟩
      · rw [s1r, a8, n16, upd_n c]
      · rw [a4 3 (by omega) (by omega) (by omega) (by omega)]; exact k3 r hr
      · rw [a13 r c]; exact k2 r k hr hk
  · rw [a4 1 (by omega) (by omega) (by omega) (by omega), k1]; rfl
  · rw [a4 3 (by omega) (by omega) (by omega) (by omega)]; exact k3 0 (by omega)
