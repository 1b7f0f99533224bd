theorem nn_64s (a : Nat) : nn (64 + a) - 64 = nn a := (nn_sub (a := 64 + a) (b := 64) (by omega)).trans (congrArg nn (by omega))
theorem nn_d2 {a : Nat} (h : a < 2147483648) : nn a / 2 = nn (a / 2) := nn_div (a := a) (b := 2) h (by omega)
theorem cnt_s (g : Nat → Bool) (i m : Nat) : cnt (fun j => g (i + j)) (m + 1) = (if g i = true then 1 else 0) + cnt (fun j => g (i + 1 + j)) m := by
  have h := cnt_add (fun j => g (i + j)) 1 m
  rw [show m + 1 = 1 + m by omega, h]
  have e : (fun j => g (i + (1 + j))) = fun j => g (i + 1 + j) := funext fun j => by rw [show i + (1 + j) = i + 1 + j by omega]
  rw [e]
  simp [cnt]
theorem cnt_z (g : Nat → Bool) (m : Nat) : cnt (fun j => g (0 + j)) m = cnt g m := cnt_cong m (fun j _ => by rw [Nat.zero_add])
theorem own_loop {t : KS} {K : Nat} : ∀ (m i n c : Nat), i + m = 54 → m < n → p_X2_owners_L59 n (nn K) (nn c) (nn i) t = some (.inl (some (nn (c + cnt (fun j => decide (t.1 22 (i + j) = nn K)) m))), t)
  | 0, i, n + 1, c, h1, h2 => by
    simp (disch := omega) [p_X2_owners_L59, nn_54g, (by omega : 54 ≤ i), cnt]
  | m + 1, i, n + 1, c, h1, h2 => by
    rw [cnt_s (fun j => decide (t.1 22 j = nn K)) i m]
    by_cases h : t.1 22 i = nn K
    · have ih := own_loop (t := t) (K := K) m (i + 1) n (c + 1) (by omega) (by omega)
      simp (disch := omega) [p_X2_owners_L59, nn_54g, (fF (by omega) : (54 ≤ i) = False), nn_in, nn_tn, (by omega : i < 54), h, nn_p1, ih]
      congr 1; omega
    · have ih := own_loop (t := t) (K := K) m (i + 1) n c (by omega) (by omega)
      simp (disch := omega) [p_X2_owners_L59, nn_54g, (fF (by omega) : (54 ≤ i) = False), nn_in, nn_tn, (by omega : i < 54), h, nn_p0, nn_p1, ih]
theorem owners_o {t : KS} {K : Nat} (hK : K < 64) : p_X2_owners (nn K) t = some (.inl (some (nn (cnt (fun j => decide (t.1 22 j = nn K)) 54))), t) := by
  have h := own_loop (t := t) (K := K) 54 0 400 0 (by omega) (by omega)
  rw [cnt_z (fun j => decide (t.1 22 j = nn K)), Nat.zero_add] at h
  have h' : p_X2_owners_L59 400 (nn K) 0 0 t = _ := h
  simp (disch := omega) only [p_X2_owners, nn_64l, hK, decide_true, cond_true, h']
def tc (st pg : Nat → Int32) (P : Nat) : Nat := cnt (fun p => decide (st p = 1 ∧ pg p = nn (P / 2))) 6
theorem txt_loop {t : KS} {P : Nat} (hP : P < 6) : ∀ (m i n c : Nat), i + m = 6 → m < n → p_X2_owners_L10 n (nn (64 + P)) (nn c) (nn i) t = some (.inl (some (nn (c + cnt (fun j => decide (t.1 16 (i + j) = 1 ∧ t.1 17 (i + j) = nn (P / 2))) m))), t)
  | 0, i, n + 1, c, h1, h2 => by
    simp (disch := omega) [p_X2_owners_L10, nn_6g, (by omega : 6 ≤ i), cnt]
  | m + 1, i, n + 1, c, h1, h2 => by
    rw [cnt_s (fun j => decide (t.1 16 j = 1 ∧ t.1 17 j = nn (P / 2))) i m]
    by_cases h : t.1 16 i = 1
    · by_cases h' : t.1 17 i = nn (P / 2)
      · have ih := txt_loop (t := t) hP m (i + 1) n (c + 1) (by omega) (by omega)
        simp (disch := omega) [p_X2_owners_L10, nn_6g, (fF (by omega) : (6 ≤ i) = False), nn_in, nn_tn, (by omega : i < 6), h, h', nn_64s, nn_d2, nn_p1, ih]
        congr 1; omega
      · have ih := txt_loop (t := t) hP m (i + 1) n c (by omega) (by omega)
        simp (disch := omega) [p_X2_owners_L10, nn_6g, (fF (by omega) : (6 ≤ i) = False), nn_in, nn_tn, (by omega : i < 6), h, h', nn_64s, nn_d2, nn_p0, nn_p1, ih]
    · have ih := txt_loop (t := t) hP m (i + 1) n c (by omega) (by omega)
      simp (disch := omega) [p_X2_owners_L10, nn_6g, (fF (by omega) : (6 ≤ i) = False), nn_in, nn_tn, (by omega : i < 6), h, nn_p0, nn_p1, ih]
theorem owners_t {t : KS} {P : Nat} (hP : P < 6) : p_X2_owners (nn (64 + P)) t = some (.inl (some (nn (tc (t.1 16) (t.1 17) P))), t) := by
  have h := txt_loop (t := t) hP 6 0 400 0 (by omega) (by omega)
  rw [cnt_z (fun j => decide (t.1 16 j = 1 ∧ t.1 17 j = nn (P / 2))), Nat.zero_add] at h
  have h' : p_X2_owners_L10 400 (nn (64 + P)) 0 0 t = _ := h
  simp (disch := omega) only [p_X2_owners, nn_64l, (fF (by omega) : (64 + P < 64) = False), decide_false, cond_false, h', tc]
theorem cnt54 (g : Nat → Bool) : cnt g 54 = sum6 (fun p => cnt (fun k => g (9 * p + k)) 9) := by
  have h5 : cnt g 54 = cnt g 45 + cnt (fun k => g (45 + k)) 9 := cnt_add g 45 9
  have h4 : cnt g 45 = cnt g 36 + cnt (fun k => g (36 + k)) 9 := cnt_add g 36 9
  have h3 : cnt g 36 = cnt g 27 + cnt (fun k => g (27 + k)) 9 := cnt_add g 27 9
  have h2 : cnt g 27 = cnt g 18 + cnt (fun k => g (18 + k)) 9 := cnt_add g 18 9
  have h1 : cnt g 18 = cnt g 9 + cnt (fun k => g (9 + k)) 9 := cnt_add g 9 9
  have h0 := cnt_z g 9
  show cnt g 54 = cnt (fun k => g (0 + k)) 9 + cnt (fun k => g (9 + k)) 9 + cnt (fun k => g (18 + k)) 9 + cnt (fun k => g (27 + k)) 9 + cnt (fun k => g (36 + k)) 9 + cnt (fun k => g (45 + k)) 9
  omega
theorem oc_uc {nf P : Nat} {φ : Nat → Nat} {L G : Nat → Prop} {g : Nat → Nat → Int32} {ho pf mk ta tm tp : Nat → Int32} (hE : ER φ L noX g tp) (hI : GI g) (hL : LG nf φ L G ho pf mk ta tm) (lP : L P) (h6 : 6 ≤ P) : cnt (fun j => decide (tp j = nn (φ P))) 54 = uc g P := by
  have hP := (hL.1 P lP).1
  have hf := (hL.1 P lP).2.1
  rw [cnt54]
  unfold uc
  refine sum6_cong (fun p hp => ?_)
  have h1 := cnt_add (fun k => decide (g p k = nn P)) 2 9
  have h2 : cnt (fun k => decide (g p k = nn P)) 2 = 0 := by
    refine Nat.eq_zero_of_not_pos (fun h => ?_)
    obtain ⟨j, a, b⟩ := cnt_pos.mp h
    have b' : g p j = nn P := of_decide_eq_true b
    rcases hI p j hp (by omega) with c | ⟨Q, c1, c2, c3, _⟩
    · rw [c] at b'; exact absurd b'.symm (nnm (by omega))
    · have := nni (by omega) (by omega) (c2.symm.trans b')
      have := c3 a; omega
  show cnt (fun k => decide (tp (9 * p + k) = nn (φ P))) 9 = cnt (fun k => decide (g p k = nn P)) (2 + 9)
  rw [h1, h2, Nat.zero_add]
  refine cnt_cong 9 (fun k hk => ?_)
  rcases hE p k hp hk id with ⟨a, b⟩ | ⟨Q, a1, a2, a3, a4, a5⟩
  · simp only [a, b]
    rw [decide_eq_false (fun x : (-1 : Int32) = _ => nnm (by omega) x.symm), decide_eq_false (fun x : (-1 : Int32) = _ => nnm (by omega) x.symm)]
  · simp only [a4, a5]
    have hq := (hL.1 Q a1).2.1
    refine decide_eq_decide.mpr ⟨fun x => ?_, fun x => ?_⟩
    · rw [hL.2.2.1 Q P a1 lP (nni (by omega) (by omega) x)]
    · rw [nni (by omega) (by omega) x]
theorem oc_0 {nf K : Nat} {φ : Nat → Nat} {L G : Nat → Prop} {g : Nat → Nat → Int32} {ho pf mk ta tm tp : Nat → Int32} (hE : ER φ L noX g tp) (hL : LG nf φ L G ho pf mk ta tm) (hK : K < 64) (h : ∀ P, L P → φ P ≠ K) : cnt (fun j => decide (tp j = nn K)) 54 = 0 := by
  refine Nat.eq_zero_of_not_pos (fun h0 => ?_)
  obtain ⟨j, a, b⟩ := cnt_pos.mp h0
  have b' : tp j = nn K := of_decide_eq_true b
  have e : 9 * (j / 9) + j % 9 = j := by omega
  rcases hE (j / 9) (j % 9) (by omega) (by omega) id with ⟨_, c⟩ | ⟨Q, a1, a2, a3, a4, a5⟩
  · rw [e, b'] at c; exact absurd c (nnm (by omega))
  · rw [e, b'] at a5
    exact h Q a1 (nni (by omega) (by have := (hL.1 Q a1).2.1; omega) a5).symm
theorem ml_new_o {k : Nat} {t : KS} (hk : k < 64) (h : t.1 25 k = -1) : p_X2_leave (nn k) t = some (.inl none, kS (kS t 25 k (-1)) 24 k 0) := by
  simp (disch := omega) [p_X2_leave, nn_in, nn_tn, hk, (by omega : k < 70), h, m1_100, m1_l0, nn_64g, (fF (by omega) : (64 ≤ k) = False), nar0]
theorem ml_new_t {k : Nat} {t : KS} (hk : k < 70) (h6 : 64 ≤ k) (h : t.1 25 k = -1) : p_X2_leave (nn k) t = some (.inl none, kS t 25 k (-1)) := by
  simp (disch := omega) [p_X2_leave, nn_in, nn_tn, hk, h, m1_100, m1_l0, nn_64g, h6]
theorem ml_fr_o {k f : Nat} {t : KS} (hk : k < 64) (hf : f < 10) (h : t.1 25 k = nn f) : p_X2_leave (nn k) t = some (.inl none, kS (kS (kS t 26 f (-1)) 25 k (-1)) 24 k 0) := by
  simp (disch := omega) [p_X2_leave, nn_in, nn_tn, hk, (by omega : k < 70), h, nn_100l, (by omega : f < 100), nn_l0, hf, nn_64g, (fF (by omega) : (64 ≤ k) = False), nar0]
theorem ml_fr_t {k f : Nat} {t : KS} (hk : k < 70) (h6 : 64 ≤ k) (hf : f < 10) (h : t.1 25 k = nn f) : p_X2_leave (nn k) t = some (.inl none, kS (kS t 26 f (-1)) 25 k (-1)) := by
  simp (disch := omega) [p_X2_leave, nn_in, nn_tn, hk, h, nn_100l, (by omega : f < 100), nn_l0, hf, nn_64g, h6]
theorem ml_sl_o {k i : Nat} {t : KS} (hk : k < 64) (hi : i < 20) (h : t.1 25 k = nn (100 + i)) : p_X2_leave (nn k) t = some (.inl none, kS (kS (kS t 28 i 0) 25 k (-1)) 24 k 0) := by
  simp (disch := omega) [p_X2_leave, nn_in, nn_tn, hk, (by omega : k < 70), h, nn_100l, (fF (by omega) : (100 + i < 100) = False), nn_100s, hi, nn_64g, (fF (by omega) : (64 ≤ k) = False), nar0]
theorem lg_ml {nf k : Nat} {φ : Nat → Nat} {L G : Nat → Prop} {ho pf mk ta tm : Nat → Int32} (h : LG nf φ L G ho pf mk ta tm) (e : ∀ P, L P → φ P ≠ k) : LG nf φ L (fun j => G j ∧ j ≠ k) ho pf mk (upd ta k (-1)) tm := by
  obtain ⟨l1, l2, l3, l4, l5, l6, l7, l8⟩ := h
  refine ⟨fun P hP => ?_, fun P hP => ?_, l3, fun j hj => ?_, l5, l6, l7, fun j hj => l8 j hj.1⟩
  · obtain ⟨a1, a2, a3, a4⟩ := l1 P hP
    exact ⟨a1, a2, a3, fun x => a4 x.1⟩
  · rw [upd_n (e P hP)]; exact l2 P hP
  · rw [upd_e]
    by_cases c : j = k
    · rw [if_pos c]; exact Or.inl rfl
    · rw [if_neg c]
      rcases l4 j hj with h | h | h
      · exact Or.inl h
      · exact Or.inr (Or.inl h)
      · exact Or.inr (Or.inr ⟨h, c⟩)
theorem dr_ml {k : Nat} {φ : Nat → Nat} {L G : Nat → Prop} {us : Nat → Int32} (h : DR φ L G us) (e : ∀ P, L P → φ P ≠ k) : DR φ L (fun j => G j ∧ j ≠ k) (upd us k 0) := fun J hJ => by
  rw [upd_e]
  by_cases c : J = k
  · rw [if_pos c]
    refine ⟨Or.inl rfl, ⟨fun x => absurd x (by decide), fun x => ?_⟩⟩
    rcases x with ⟨P, a, b⟩ | x
    · exact absurd (b.trans c) (e P a)
    · exact absurd c x.2
  · rw [if_neg c]
    refine ⟨(h J hJ).1, (h J hJ).2.trans ⟨fun x => x.elim Or.inl (fun y => Or.inr ⟨y, c⟩), fun x => x.elim Or.inl (fun y => Or.inr y.1)⟩⟩
theorem dr_mt {k : Nat} {φ : Nat → Nat} {L G : Nat → Prop} {us : Nat → Int32} (h : DR φ L G us) (hk : 64 ≤ k) : DR φ L (fun j => G j ∧ j ≠ k) us := fun J hJ => ⟨(h J hJ).1, (h J hJ).2.trans ⟨fun x => x.elim Or.inl (fun y => Or.inr ⟨y, by omega⟩), fun x => x.elim Or.inl (fun y => Or.inr y.1)⟩⟩
theorem rx_mleave {nf ns k : Nat} {φ : Nat → Nat} {L : Nat → Prop} {ext : Nat → Nat} {G : Nat → Prop} {X : Nat → Nat → Prop} {s t : KS} (R : RX nf ns φ L ext G X s t) (hk : k < 70) (e : ∀ P, L P → φ P ≠ k) : ∃ t1, p_X2_leave (nn k) t = some (.inl none, t1) ∧ RX nf ns φ L ext (fun j => G j ∧ j ≠ k) X s t1 ∧ fixN t t1 ∧ t1.1 22 = t.1 22 := by
  obtain ⟨hb, hC, hM, hL, hT, hU, hD, hW, hI, hE⟩ := R
  by_cases c : k < 64
  · rcases hM.1 k hk with h | ⟨f, hf, h⟩ | ⟨_, i, hi, h⟩
    · exact ⟨_, ml_new_o c h, ⟨hb, hC, mi_new hM h, lg_ml hL e, hT, hU, dr_ml hD e, hW, hI, hE⟩, fixN_s (fixN_s (fixN_r t) 25 _ _ (by omega)) 24 _ _ (by omega), rfl⟩
    · exact ⟨_, ml_fr_o c (by omega) h, ⟨hb, hC, mi_vac hb.2.1 hb.2.2 hM hk hf h, lg_ml hL e, hT, hU, dr_ml hD e, hW, hI, hE⟩, fixN_s (fixN_s (fixN_s (fixN_r t) 26 _ _ (by omega)) 25 _ _ (by omega)) 24 _ _ (by omega), rfl⟩
    · exact ⟨_, ml_sl_o c (by omega) h, ⟨hb, hC, mi_vas hb.2.1 hb.2.2 hM hk hi h, lg_ml hL e, hT, hU, dr_ml hD e, hW, hI, hE⟩, fixN_s (fixN_s (fixN_s (fixN_r t) 28 _ _ (by omega)) 25 _ _ (by omega)) 24 _ _ (by omega), rfl⟩
  · rcases hM.1 k hk with h | ⟨f, hf, h⟩ | ⟨h6, _⟩
    · exact ⟨_, ml_new_t hk (by omega) h, ⟨hb, hC, mi_new hM h, lg_ml hL e, hT, hU, dr_mt hD (by omega), hW, hI, hE⟩, fixN_s (fixN_r t) 25 _ _ (by omega), rfl⟩
    · exact ⟨_, ml_fr_t hk (by omega) (by omega) h, ⟨hb, hC, mi_vac hb.2.1 hb.2.2 hM hk hf h, lg_ml hL e, hT, hU, dr_mt hD (by omega), hW, hI, hE⟩, fixN_s (fixN_s (fixN_r t) 26 _ _ (by omega)) 25 _ _ (by omega), rfl⟩
    · exact absurd h6 c
theorem tc_le (st pg : Nat → Int32) (P : Nat) : tc st pg P ≤ 6 := cnt_le _ 6
theorem clean_loop {nf ns : Nat} {φ : Nat → Nat} {L : Nat → Prop} {ext : Nat → Nat} {s : KS} (hx : ∀ P, 6 ≤ P → ext P = 0) : ∀ (m i n : Nat) (G : Nat → Prop) (t : KS), i + m = 70 → m < n → RX nf ns φ L ext G noX s t → (∀ k, G k → i ≤ k) → (∀ P, P < 6 → (tc (t.1 16) (t.1 17) P = 0 ↔ ¬ L P)) → ∃ t', p_X2_clean_L2 n (nn i) t = some (.inl none, t') ∧ RX nf ns φ L ext noG noX s t' ∧ fixN t t' ∧ t'.1 22 = t.1 22
  | 0, i, n + 1, G, t, h1, h2, R, hG, hT => by
    refine ⟨t, ?_, rx_G R (fun k => ⟨fun x => absurd (hG k x) (by have := R.2.2.2.1.2.2.2.2.2.2.2 k x; omega), fun x => absurd x id⟩), fixN_r t, rfl⟩
    simp (disch := omega) [p_X2_clean_L2, nn_70g, (by omega : 70 ≤ i)]
  | m + 1, i, n + 1, G, t, h1, h2, R, hG, hT => by
    have hL := R.2.2.2.1
    have hU := R.2.2.2.2.2.1
    have hD := R.2.2.2.2.2.2.1
    have hI := R.2.2.2.2.2.2.2.2.1
    have hE := R.2.2.2.2.2.2.2.2.2
    have stay : ¬ G i → ∃ t', p_X2_clean_L2 n (nn (i + 1)) t = some (.inl none, t') ∧ RX nf ns φ L ext noG noX s t' ∧ fixN t t' ∧ t'.1 22 = t.1 22 := fun h => clean_loop hx m (i + 1) n G t (by omega) (by omega) R (fun k x => by have := hG k x; have : k ≠ i := fun e => h (e ▸ x); omega) hT
    have goes : (∀ P, L P → φ P ≠ i) → ∃ t1 t', p_X2_leave (nn i) t = some (.inl none, t1) ∧ p_X2_clean_L2 n (nn (i + 1)) t1 = some (.inl none, t') ∧ RX nf ns φ L ext noG noX s t' ∧ fixN t t' ∧ t'.1 22 = t.1 22 := fun h => by
      obtain ⟨t1, a1, a2, a3, a4⟩ := rx_mleave R (show i < 70 by omega) h
      obtain ⟨t', b1, b2, b3, b4⟩ := clean_loop hx m (i + 1) n _ t1 (by omega) (by omega) a2 (fun k x => by have := hG k x.1; have := x.2; omega) (by rw [a3.2 16 (by omega) (by omega), a3.2 17 (by omega) (by omega)]; exact hT)
      exact ⟨t1, t', a1, b1, b2, fixN_t a3 b3, b4.trans a4⟩
    by_cases c : i < 64
    · rcases (hD i c).1 with z | z
      · have hn : ¬ G i := fun x => by have := (hD i c).2.mpr (Or.inr x); rw [z] at this; exact absurd this (by decide)
        obtain ⟨t', b1, b2⟩ := stay hn
        refine ⟨t', ?_, b2⟩
        simp (disch := omega) [p_X2_clean_L2, nn_70g, (fF (by omega) : (70 ≤ i) = False), nn_64g, (fF (by omega) : (64 ≤ i) = False), nn_in, nn_tn, c, z, nn_p1, b1]
      · by_cases g : ∃ P, L P ∧ φ P = i
        · obtain ⟨P, lP, eP⟩ := g
          have h6 : 6 ≤ P := by
            refine Classical.byContradiction fun h => ?_
            have := hL.2.2.2.2.2.2.1 P (by omega)
            omega
          have hP := (hL.1 P lP).1
          have hc := oc_uc hE hI hL lP h6
          have hp := (hU P hP).2.1.mp lP
          rw [hx P h6] at hp
          rw [eP] at hc
          have ho := owners_o (t := t) c
          rw [hc] at ho
          have hn : ¬ G i := eP ▸ (hL.1 P lP).2.2.2
          obtain ⟨t', b1, b2⟩ := stay hn
          refine ⟨t', ?_, b2⟩
          have := uc_le s.2 P
          simp (disch := omega) [p_X2_clean_L2, nn_70g, (fF (by omega) : (70 ≤ i) = False), nn_64g, (fF (by omega) : (64 ≤ i) = False), nn_in, nn_tn, c, z, nn_p1, b1, ho, kbi, nn_e0, (fF (by omega) : (uc s.2 P = 0) = False)]
        · have g' : ∀ P, L P → φ P ≠ i := fun P a b => g ⟨P, a, b⟩
          have ho := owners_o (t := t) c
          rw [oc_0 hE hL c g'] at ho
          obtain ⟨t1, t', b0, b1, b2⟩ := goes g'
          refine ⟨t', ?_, b2⟩
          simp (disch := omega) [p_X2_clean_L2, nn_70g, (fF (by omega) : (70 ≤ i) = False), nn_64g, (fF (by omega) : (64 ≤ i) = False), nn_in, nn_tn, c, z, nn_p1, b1, ho, kbi, kbv, b0, nn_e0]
    · obtain ⟨P, rfl⟩ : ∃ P, i = 64 + P := ⟨i - 64, by omega⟩
      have hP : P < 6 := by omega
      have ho := owners_t (t := t) hP
      by_cases g : L P
      · have h0 : ¬ tc (t.1 16) (t.1 17) P = 0 := fun x => (hT P hP).mp x g
        have hn : ¬ G (64 + P) := (hL.2.2.2.2.2.2.1 P hP) ▸ (hL.1 P g).2.2.2
        obtain ⟨t', b1, b2⟩ := stay hn
        refine ⟨t', ?_, b2⟩
        have := tc_le (t.1 16) (t.1 17) P
        simp (disch := omega) [p_X2_clean_L2, nn_70g, (fF (by omega) : (70 ≤ 64 + P) = False), nn_64g, nn_p1, b1, ho, kbi, nn_e0, h0]
      · have h0 : tc (t.1 16) (t.1 17) P = 0 := (hT P hP).mpr g
        rw [h0] at ho
        have g' : ∀ Q, L Q → φ Q ≠ 64 + P := fun Q a b => by
          by_cases q : Q < 6
          · have := hL.2.2.2.2.2.2.1 Q q
            have : Q = P := by omega
            exact g (this ▸ a)
          · have := (hL.1 Q a).2.2.1 (by omega)
            omega
        obtain ⟨t1, t', b0, b1, b2⟩ := goes g'
        refine ⟨t', ?_, b2⟩
        simp (disch := omega) [p_X2_clean_L2, nn_70g, (fF (by omega) : (70 ≤ 64 + P) = False), nn_64g, nn_p1, b1, ho, kbi, kbv, b0, nn_e0]
