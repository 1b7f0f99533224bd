theorem freeSlot_l {ns : Nat} {t : KS} (hn : ns ≤ 20) (h2 : t.1 15 2 = nn ns) : ∀ (k i n : Nat), i + k = ns → k < n → p_X2_freeSlot_L2 n (nn i) t = some (.inl (some (lf (fun j => decide (t.1 28 j = 0)) k i)), t)
  | 0, i, n + 1, h1, h3 => by
    simp (disch := omega) [p_X2_freeSlot_L2, h2, nn_le, lf, (by omega : ns ≤ i)]
  | k + 1, i, n + 1, h1, h3 => by
    have ih := freeSlot_l hn h2 k (i + 1) n (by omega) (by omega)
    simp (disch := omega) only [p_X2_freeSlot_L2, h2, nn_le, lf, nn_in, nn_tn, (fF (by omega) : (ns ≤ i) = False), (by omega : i < 20), nn_p1, ih, decide_false, decide_true, cond_false, cond_true, decide_eq_true_eq]
    by_cases h : t.1 28 i = 0 <;> simp [h]
theorem freeSlot_p {ns : Nat} {t : KS} (hn : ns ≤ 20) (h2 : t.1 15 2 = nn ns) : p_X2_freeSlot t = some (.inl (some (lf (fun j => decide (t.1 28 j = 0)) ns 0)), t) := freeSlot_l hn h2 ns 0 400 (by omega) (by omega)
theorem canGo_mt {k : Nat} {t : KS} (hk : k < 70) (h : 64 ≤ k) : p_X2_canGo (nn k) t = some (.inl (some 1), t) := by
  simp (disch := omega) [p_X2_canGo, nn_64g, h]
theorem canGo_mo {k ns : Nat} {t : KS} (hk : k < 64) (hn : ns ≤ 20) (h2 : t.1 15 2 = nn ns) : p_X2_canGo (nn k) t = some (.inl (some (if lf (fun j => decide (t.1 28 j = 0)) ns 0 = -1 then 0 else 1)), t) := by
  simp (disch := omega) only [p_X2_canGo, nn_64g, (fF (by omega) : (64 ≤ k) = False), freeSlot_p hn h2, kbi, decide_false, cond_false]
  rcases lf_spec (fun j => decide (t.1 28 j = 0)) ns 0 with ⟨h, _⟩ | ⟨j, _, hj, _, h⟩
  · simp [h]
  · simp (disch := omega) [h, nn_l0, nn_m1]
theorem sendOut_mt {k f : Nat} {t : KS} (hk : k < 70) (h : 64 ≤ k) (hf : f < 10) (ha : t.1 25 k = nn f) : p_X2_sendOut (nn k) t = some (.inl none, kS (kS (kS t 26 f (-1)) 15 19 (t.1 15 19 + 1)) 25 k (-1)) := by
  simp (disch := omega) [p_X2_sendOut, nn_in, nn_tn, hk, ha, hf, nn_64l, (fF (by omega) : (k < 64) = False), kS_1]
theorem sendOut_mo {k f j ns : Nat} {t : KS} (hk : k < 64) (hf : f < 10) (hn : ns ≤ 20) (h2 : t.1 15 2 = nn ns) (ha : t.1 25 k = nn f) (hj : j < ns) (hl : lf (fun j => decide (t.1 28 j = 0)) ns 0 = nn j) : p_X2_sendOut (nn k) t = some (.inl none, kS (kS (kS (kS t 26 f (-1)) 15 19 (t.1 15 19 + 1)) 28 j 1) 25 k (nn (100 + j))) := by
  have e := freeSlot_p (t := kS (kS t 26 f (-1)) 15 19 (t.1 15 19 + 1)) hn (show _ = nn ns from h2)
  have e2 : lf (fun j => decide ((kS (kS t 26 f (-1)) 15 19 (t.1 15 19 + 1)).1 28 j = 0)) ns 0 = nn j := hl
  rw [e2] at e
  simp (disch := omega) [p_X2_sendOut, nn_in, nn_tn, (by omega : k < 70), ha, hf, nn_64l, hk, kS_1 t 26, e, kbi, (by omega : j < 20), nar1, nn_100p]
theorem mlook_0 {nf h : Nat} {t : KS} (hh : h < nf) (hn : nf ≤ 10) (h1 : t.1 15 1 = nn nf) (h6 : t.1 15 16 = nn h) (h26 : t.1 26 h = -1) : p_X2_look t = some (.inl (some 0), kS t 15 16 (nn (nx nf h))) := by
  unfold p_X2_look
  rw [h1, h6, nn_p1, nn_rem (by omega) (by omega), nx_mod hh, nn_in (by omega), nn_tn (by omega)]
  simp (disch := omega) [nn_e0, (fF (by omega) : (nf = 0) = False), (by omega : h < 10), kS_1, h26, m1_g0]
theorem mlook_1 {nf h k : Nat} {t : KS} (hh : h < nf) (hn : nf ≤ 10) (h1 : t.1 15 1 = nn nf) (h6 : t.1 15 16 = nn h) (hk : k < 70) (h26 : t.1 26 h = nn k) (h27 : t.1 27 h = 1) : p_X2_look t = some (.inl (some 0), kS (kS t 15 16 (nn (nx nf h))) 27 h 0) := by
  unfold p_X2_look
  rw [h1, h6, nn_p1, nn_rem (by omega) (by omega), nx_mod hh, nn_in (by omega), nn_tn (by omega)]
  simp (disch := omega) [nn_e0, (fF (by omega) : (nf = 0) = False), (by omega : h < 10), kS_1, h26, nn_g0, h27, nar0]
theorem mlook_2 {nf h k : Nat} {t : KS} (hh : h < nf) (hn : nf ≤ 10) (h1 : t.1 15 1 = nn nf) (h6 : t.1 15 16 = nn h) (hk : k < 70) (h26 : t.1 26 h = nn k) (h27 : t.1 27 h = 0) (hg : p_X2_canGo (nn k) (kS t 15 16 (nn (nx nf h))) = some (.inl (some 0), kS t 15 16 (nn (nx nf h)))) : p_X2_look t = some (.inl (some 0), kS t 15 16 (nn (nx nf h))) := by
  unfold p_X2_look
  rw [h1, h6, nn_p1, nn_rem (by omega) (by omega), nx_mod hh, nn_in (by omega), nn_tn (by omega)]
  simp (disch := omega) [nn_e0, (fF (by omega) : (nf = 0) = False), (by omega : h < 10), kS_1, h26, nn_g0, h27, hg, kbi]
theorem mlook_3 {nf h k : Nat} {t t3 : KS} (hh : h < nf) (hn : nf ≤ 10) (h1 : t.1 15 1 = nn nf) (h6 : t.1 15 16 = nn h) (hk : k < 70) (h26 : t.1 26 h = nn k) (h27 : t.1 27 h = 0) (hg : p_X2_canGo (nn k) (kS t 15 16 (nn (nx nf h))) = some (.inl (some 1), kS t 15 16 (nn (nx nf h)))) (ho : p_X2_sendOut (nn k) (kS t 15 16 (nn (nx nf h))) = some (.inl none, t3)) : p_X2_look t = some (.inl (some 1), t3) := by
  unfold p_X2_look
  rw [h1, h6, nn_p1, nn_rem (by omega) (by omega), nx_mod hh, nn_in (by omega), nn_tn (by omega)]
  simp (disch := omega) [nn_e0, (fF (by omega) : (nf = 0) = False), (by omega : h < 10), kS_1, h26, nn_g0, h27, hg, kbi, kbv, ho]
