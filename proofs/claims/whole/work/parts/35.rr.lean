def SH (q d e : Nat) (r : Nat → Int32) : Prop :=
  r 0 = nn (2 * q) ∧ r 1 = nn (2 * q + 1) ∧ (∀ k, k < 6 → (r (2 + k) = -1 ↔ d ≤ k)) ∧ (∀ k, k < 3 → (r (8 + k) = -1 ↔ k + e < 3))
def PU (pg da sk : Int32) (r : Nat → Int32) (pg' da' sk' : Int32) : Prop :=
  ∃ q d e, q < 3 ∧ d ≤ 6 ∧ 1 ≤ e ∧ e ≤ 3 ∧ pg = nn q ∧ pg' = nn q ∧ da = nn d ∧ da' = nn d ∧ sk = nn e ∧ sk' = nn e ∧ SH q d e r
def PR (st pg pa ec da sk : Int32) (r : Nat → Int32) (st' pg' pa' co' da' sk' : Int32) : Prop :=
  st = st' ∧ ((st = 1 ∧ pa = pa' ∧ PU pg da sk r pg' da' sk') ∨ (st = 0 ∧ pa = -1 ∧ ∀ k, k < 11 → r k = -1) ∨ (st = 2 ∧ pa = pa' ∧ ec = co' ∧ ∀ k, k < 11 → r k = -1))
def PA (s t : KS) (p : Nat) : Prop := PR (s.1 1 p) (s.1 2 p) (s.1 3 p) (s.1 4 p) (s.1 5 p) (s.1 6 p) (s.2 p) (t.1 16 p) (t.1 17 p) (t.1 18 p) (t.1 19 p) (t.1 20 p) (t.1 21 p)
def RQ (nf ns : Nat) (φ : Nat → Nat) (L : Nat → Prop) (s t : KS) : Prop :=
  RX nf ns φ L no0 noG noX s t ∧ (∀ p, p < 6 → PA s t p) ∧ s.1 1 0 = 1 ∧ s.1 3 0 = -1
def RR (nf ns : Nat) (s t : KS) : Prop := ∃ φ L, RQ nf ns φ L s t
def AG (nf ns : Nat) (cs : List (Nat × Int32)) (a b : KR) : Prop :=
  ∃ s' t', RR nf ns s' t' ∧ ((∃ x, a = some (.inl (some x), s') ∧ b = some (.inl (some x), t') ∧ t'.1 15 0 = 0) ∨ (∃ e c y, (e, c) ∈ cs ∧ a = some (.inr e, s') ∧ b = some (.inl (some y), t') ∧ t'.1 15 0 = c))
theorem rq_f {nf ns : Nat} {φ : Nat → Nat} {L : Nat → Prop} {s t : KS} (x : Int32) (R : RQ nf ns φ L s t) : RQ nf ns φ L s (kS t 15 0 x) := R
theorem rr_f {nf ns : Nat} {s t : KS} (x : Int32) (R : RR nf ns s t) : RR nf ns s (kS t 15 0 x) := R
theorem pa_fix {s t s' t' : KS} {p : Nat} (h : PA s t p) (h1 : fixK s s') (h2 : s'.2 = s.2) (h3 : ∀ c, 16 ≤ c → c < 22 → t'.1 c = t.1 c) : PA s' t' p := by
  unfold PA
  rw [h1 1 (by omega), h1 2 (by omega), h1 3 (by omega), h1 4 (by omega), h1 5 (by omega), h1 6 (by omega), h2, h3 16 (by omega) (by omega), h3 17 (by omega) (by omega), h3 18 (by omega) (by omega), h3 19 (by omega) (by omega), h3 20 (by omega) (by omega), h3 21 (by omega) (by omega)]
  exact h
/-- the memory has moved in step -/
theorem rq_mr {nf ns : Nat} {φ : Nat → Nat} {L : Nat → Prop} {s t s' t' : KS} (R : RQ nf ns φ L s t) (R' : MR nf ns φ L s' t') (h1 : fixC s s') (h2 : fixM t t') : RQ nf ns φ L s' t' := by
  obtain ⟨a, b, c, d⟩ := R
  refine ⟨rx_of_mr a R' h1 h2, fun p hp => pa_fix (b p hp) (fixK_c h1) h1.1 (fun c x y => h2.2 c (by omega) (by omega) (by omega) (by omega) (by omega)), ?_, ?_⟩
  · rw [h1.2 1 (by omega) (by omega) (by omega) (by omega) (by omega)]; exact c
  · rw [h1.2 3 (by omega) (by omega) (by omega) (by omega) (by omega)]; exact d
theorem split (x : Int32) (n : Nat) (hn : n < 1000) : (∃ p, p < n ∧ x = nn p) ∨ x < 0 ∨ (¬ x < 0 ∧ nn n ≤ x) := by
  by_cases h : x < 0
  · exact Or.inr (Or.inl h)
  · obtain ⟨a, b⟩ := nn_of (Int32.not_lt.mp h)
    by_cases c : x.toNatClampNeg < n
    · exact Or.inl ⟨_, c, a⟩
    · refine Or.inr (Or.inr ⟨h, ?_⟩)
      rw [a, nn_le (by omega) b]; omega
theorem cr_ok {nf ns : Nat} {x lo hi : Int32} {s : KS} (h1 : ¬ x < lo) (h2 : x ≤ hi) : p_X1_checkRange nf ns x lo hi s = some (.inl none, s) := by
  simp [p_X1_checkRange, h1, h2]
theorem cr_no {nf ns : Nat} {x lo hi : Int32} {s : KS} (h : x < lo ∨ ¬ x ≤ hi) : p_X1_checkRange nf ns x lo hi s = some (.inr 0, s) := by
  by_cases c : x < lo
  · simp [p_X1_checkRange, c]
  · simp [p_X1_checkRange, c, h.resolve_left c]
theorem cr_in {nf ns p n : Nat} {s : KS} (h : p < n) (hn : n < 1000) : p_X1_checkRange nf ns (nn p) 0 (nn (n - 1)) s = some (.inl none, s) := cr_ok (by rw [nn_l0 (by omega)]; exact id) (by rw [nn_le (by omega) (by omega)]; omega)
theorem cr_out {nf ns n : Nat} {x : Int32} {s : KS} (hn : n < 1000) (h1 : 1 ≤ n) (h : x < 0 ∨ (¬ x < 0 ∧ nn n ≤ x)) : p_X1_checkRange nf ns x 0 (nn (n - 1)) s = some (.inr 0, s) := cr_no (by
  rcases h with h | ⟨h, h'⟩
  · exact Or.inl h
  · right
    obtain ⟨a, b⟩ := nn_of (Int32.not_lt.mp h)
    rw [a, nn_le (by omega) b] at h'
    rw [a, nn_le b (by omega)]; omega)
theorem cp_in {nf ns p : Nat} {s : KS} (h : p < 6) : p_X1_checkProcess nf ns (nn p) s = some (.inl none, s) := by
  rw [p_X1_checkProcess, show p_X1_checkRange nf ns (nn p) 0 5 s = _ from cr_in (n := 6) h (by omega)]; rfl
theorem cp_out {nf ns : Nat} {x : Int32} {s : KS} (h : x < 0 ∨ (¬ x < 0 ∧ nn 6 ≤ x)) : p_X1_checkProcess nf ns x s = some (.inr 0, s) := by
  rw [p_X1_checkProcess, show p_X1_checkRange nf ns x 0 5 s = _ from cr_out (n := 6) (by omega) (by omega) h]; rfl
theorem out_in {p n : Nat} {t : KS} (h : p < n) (hn : n < 1000) : p_X2_out (nn p) (nn n) t = some (.inl (some 0), t) := by
  simp (disch := omega) [p_X2_out, nn_l0, nn_lt, h]
theorem out_out {n : Nat} {x : Int32} {t : KS} (h : x < 0 ∨ (¬ x < 0 ∧ nn n ≤ x)) : p_X2_out x (nn n) t = some (.inl (some 1), t) := by
  rcases h with h | ⟨h, h'⟩
  · simp [p_X2_out, h]
  · simp [p_X2_out, h, Int32.not_lt.mpr h']
theorem ru_ok {nf ns p : Nat} {s : KS} (hp : p < 6) (h : s.1 1 p = 1) : p_X1_checkRunning nf ns (nn p) s = some (.inl none, s) := by
  simp (disch := omega) [p_X1_checkRunning, nn_in, nn_tn, hp, h]
theorem ru_no {nf ns p : Nat} {s : KS} (hp : p < 6) (h : ¬ s.1 1 p = 1) : p_X1_checkRunning nf ns (nn p) s = some (.inr 1, s) := by
  simp (disch := omega) [p_X1_checkRunning, nn_in, nn_tn, hp, h]
theorem nr_ok {p : Nat} {t : KS} (hp : p < 6) (h : t.1 16 p = 1) : p_X2_notRunning (nn p) t = some (.inl (some 0), t) := by
  simp (disch := omega) [p_X2_notRunning, nn_in, nn_tn, hp, h]
theorem nr_no {p : Nat} {t : KS} (hp : p < 6) (h : ¬ t.1 16 p = 1) : p_X2_notRunning (nn p) t = some (.inl (some 1), t) := by
  simp (disch := omega) [p_X2_notRunning, nn_in, nn_tn, hp, h]
theorem ca_ok {nf ns p a : Nat} {s : KS} (hp : p < 6) (ha : a < 44) (h : s.1 1 p = 1) : p_X1_checkAddress nf ns (nn p) (nn a) s = some (.inl none, s) := by
  rw [p_X1_checkAddress, cp_in hp]
  show kbv (p_X1_checkRange nf ns (nn a) 0 (nn (44 - 1)) s) _ = _
  rw [cr_in ha (by omega)]
  show kbv (p_X1_checkRunning nf ns (nn p) s) _ = _
  rw [ru_ok hp h]; rfl
theorem ca_ru {nf ns p a : Nat} {s : KS} (hp : p < 6) (ha : a < 44) (h : ¬ s.1 1 p = 1) : p_X1_checkAddress nf ns (nn p) (nn a) s = some (.inr 1, s) := by
  rw [p_X1_checkAddress, cp_in hp]
  show kbv (p_X1_checkRange nf ns (nn a) 0 (nn (44 - 1)) s) _ = _
  rw [cr_in ha (by omega)]
  show kbv (p_X1_checkRunning nf ns (nn p) s) _ = _
  rw [ru_no hp h]; rfl
theorem ca_a {nf ns p : Nat} {x : Int32} {s : KS} (hp : p < 6) (h : x < 0 ∨ (¬ x < 0 ∧ nn 44 ≤ x)) : p_X1_checkAddress nf ns (nn p) x s = some (.inr 0, s) := by
  rw [p_X1_checkAddress, cp_in hp]
  show kbv (p_X1_checkRange nf ns x 0 (nn (44 - 1)) s) _ = _
  rw [cr_out (by omega) (by omega) h]; rfl
theorem ca_p {nf ns : Nat} {x y : Int32} {s : KS} (h : x < 0 ∨ (¬ x < 0 ∧ nn 6 ≤ x)) : p_X1_checkAddress nf ns x y s = some (.inr 0, s) := by
  rw [p_X1_checkAddress, cp_out h]; rfl
theorem nn_d4 {a : Nat} (h : a < 2147483648) : nn a / 4 = nn (a / 4) := nn_div (a := a) (b := 4) h (by omega)
theorem nn_r4 {a : Nat} (h : a < 2147483648) : nn a - nn (a / 4) * 4 = nn (a % 4) := by
  have := nn_rem (a := a) (b := 4) h (by omega)
  rw [nn_div h (by omega)] at this; exact this
theorem nn_32s {a : Nat} (h : 32 ≤ a) : nn a - 32 = nn (a - 32) := nn_sub (a := a) (b := 32) h
theorem nn_8s {a : Nat} (h : 8 ≤ a) : nn a - 8 = nn (a - 8) := nn_sub (a := a) (b := 8) h
theorem nn_8g {a : Nat} (h : a < 2147483648) : (8 ≤ nn a) = (8 ≤ a) := nn_le (a := 8) (b := a) (by omega) h
theorem nn_32g {a : Nat} (h : a < 2147483648) : (32 ≤ nn a) = (32 ≤ a) := nn_le (a := 32) (b := a) (by omega) h
theorem nn_6p (a : Nat) : 6 + nn a = nn (6 + a) := nn_add 6 a
theorem nn_64p (a : Nat) : 64 + nn a = nn (64 + a) := nn_add 64 a
/-! pages at an address -/
theorem po_t {p a q : Nat} {t : KS} (hp : p < 6) (ha : a < 8) (h : t.1 17 p = nn q) : p_X2_pageOf (nn p) (nn a) t = some (.inl (some (nn (64 + 2 * q + a / 4))), t) := by
  simp (disch := omega) [p_X2_pageOf, nn_8g, (fF (by omega) : (8 ≤ a) = False), nn_in, nn_tn, hp, h, nn_m2, nn_64p, nn_d4, nn_add]
theorem po_o {p a : Nat} {t : KS} (hp : p < 6) (h8 : 8 ≤ a) (ha : a < 44) : p_X2_pageOf (nn p) (nn a) t = some (.inl (some (t.1 22 (9 * p + (a / 4 - 2)))), t) := by
  by_cases c : 32 ≤ a
  · rw [show 9 * p + (a / 4 - 2) = 9 * p + (6 + (a - 32) / 4) by omega]
    simp (disch := omega) [p_X2_pageOf, nn_8g, h8, nn_32g, c, nn_32s, nn_d4, nn_6p, nn_m9, nn_add, nn_in, nn_tn, (by omega : 9 * p + (6 + (a - 32) / 4) < 54)]
  · rw [show 9 * p + (a / 4 - 2) = 9 * p + (a - 8) / 4 by omega]
    simp (disch := omega) [p_X2_pageOf, nn_8g, h8, nn_32g, (fF (by omega) : (32 ≤ a) = False), nn_8s, nn_d4, nn_m9, nn_add, nn_in, nn_tn, (by omega : 9 * p + (a - 8) / 4 < 54)]
theorem pt_p {nf ns p j : Nat} {s : KS} (hp : p < 6) (hj : j < 11) : p_X1_pageThere nf ns (nn p) (nn j) s = if s.2 p j = -1 then some (.inr 4, s) else some (.inl (some (s.2 p j)), s) := by
  by_cases h : s.2 p j = -1
  · simp (disch := omega) [p_X1_pageThere, nn_in, nn_tn, hp, hj, h]
  · simp (disch := omega) [p_X1_pageThere, nn_in, nn_tn, hp, hj, h]
theorem rq_run {nf ns p : Nat} {φ : Nat → Nat} {L : Nat → Prop} {s t : KS} (R : RQ nf ns φ L s t) (hp : p < 6) (h : s.1 1 p = 1) : t.1 16 p = 1 ∧ s.1 3 p = t.1 18 p ∧ PU (s.1 2 p) (s.1 5 p) (s.1 6 p) (s.2 p) (t.1 17 p) (t.1 20 p) (t.1 21 p) := by
  obtain ⟨e, c⟩ := R.2.1 p hp
  rcases c with c | c | c
  · exact ⟨e ▸ h, c.2.1, c.2.2⟩
  · rw [h] at c; exact absurd c.1 (by decide)
  · rw [h] at c; exact absurd c.1 (by decide)
theorem rq_nrun {nf ns p : Nat} {φ : Nat → Nat} {L : Nat → Prop} {s t : KS} (R : RQ nf ns φ L s t) (hp : p < 6) (h : ¬ s.1 1 p = 1) : ¬ t.1 16 p = 1 := by
  rw [← (R.2.1 p hp).1]; exact h
theorem page_pair {nf ns p a : Nat} {φ : Nat → Nat} {L : Nat → Prop} {s t : KS} (R : RQ nf ns φ L s t) (hp : p < 6) (h : s.1 1 p = 1) (ha : a < 44) : (8 ≤ a ∧ p_X1_pageThere nf ns (nn p) (nn (a / 4)) s = some (.inr 4, s) ∧ p_X2_pageOf (nn p) (nn a) t = some (.inl (some (-1)), t)) ∨ ∃ P, L P ∧ P < 60 ∧ φ P < 70 ∧ s.2 p (a / 4) = nn P ∧ p_X1_pageThere nf ns (nn p) (nn (a / 4)) s = some (.inl (some (nn P)), s) ∧ p_X2_pageOf (nn p) (nn a) t = some (.inl (some (nn (φ P))), t) ∧ ((a < 8 ∧ P < 6 ∧ φ P = 64 + P) ∨ (8 ≤ a ∧ 6 ≤ P ∧ φ P < 64 ∧ t.1 22 (9 * p + (a / 4 - 2)) = nn (φ P))) := by
  obtain ⟨r1, r2, q, d, e, hq, hd, he1, he3, e1, e2, e3, e4, e5, e6, ⟨s0, s1, s2, s3⟩⟩ := rq_run R hp h
  have hL := R.1.2.2.2.1
  have hU := R.1.2.2.2.2.2.1
  have hE := R.1.2.2.2.2.2.2.2.2.2
  have hpt := pt_p (nf := nf) (ns := ns) (s := s) hp (show a / 4 < 11 by omega)
  by_cases c : a < 8
  · have g : s.2 p (a / 4) = nn (2 * q + a / 4) := by
      have : a / 4 = 0 ∨ a / 4 = 1 := by omega
      rcases this with z | z
      · rw [z]; exact s0
      · rw [z]; exact s1
    have hP : 2 * q + a / 4 < 6 := by omega
    have lP : L (2 * q + a / 4) := (hU _ (by omega)).2.1.mpr (by have := uc_pos.mpr ⟨p, a / 4, hp, by omega, g⟩; omega)
    have hφ := hL.2.2.2.2.2.2.1 _ hP
    rw [g, if_neg (nnm (by omega))] at hpt
    refine Or.inr ⟨_, lP, by omega, by omega, g, hpt, ?_, Or.inl ⟨c, hP, hφ⟩⟩
    rw [po_t hp c e2, hφ, show 64 + 2 * q + a / 4 = 64 + (2 * q + a / 4) by omega]
  · have hpo := po_o (t := t) hp (show 8 ≤ a by omega) ha
    have hh := hE p (a / 4 - 2) hp (by omega) id
    rw [show 2 + (a / 4 - 2) = a / 4 by omega] at hh
    rcases hh with ⟨x, y⟩ | ⟨P, lP, h6, hP, x, y⟩
    · rw [x, if_pos rfl] at hpt
      rw [y] at hpo
      exact Or.inl ⟨by omega, hpt, hpo⟩
    · rw [x, if_neg (nnm (by omega))] at hpt
      rw [y] at hpo
      exact Or.inr ⟨P, lP, hP, (hL.1 P lP).2.1, x, hpt, hpo, Or.inr ⟨by omega, h6, (hL.1 P lP).2.2.1 h6, y⟩⟩
/-! how many share a page -/
theorem cnt6 (g : Nat → Bool) : cnt g 6 = sum6 (fun p => if g p = true then 1 else 0) := by
  simp [cnt, sum6]
theorem pc_off {r : Nat → Int32} {P : Nat} (hP : P < 60) (h : ∀ k, k < 11 → r k = -1) : pc r P = 0 := by
  refine Nat.eq_zero_of_not_pos (fun h0 => ?_)
  obtain ⟨j, a, b⟩ := cnt_pos.mp h0
  have b' : r j = nn P := of_decide_eq_true b
  rw [h j a] at b'; exact nnm (by omega) b'.symm
theorem pc_txt {g : Nat → Nat → Int32} {p P : Nat} (hp : p < 6) (hP : P < 6) (hI : GI g) : pc (g p) P = cnt (fun k => decide (g p k = nn P)) 2 := by
  have h1 : pc (g p) P = cnt (fun k => decide (g p k = nn P)) 2 + cnt (fun k => decide (g p (2 + k) = nn P)) 9 := cnt_add (fun k => decide (g p k = nn P)) 2 9
  have h2 : cnt (fun k => decide (g p (2 + k) = nn P)) 9 = 0 := by
    refine Nat.eq_zero_of_not_pos (fun h0 => ?_)
    obtain ⟨j, a, b⟩ := cnt_pos.mp h0
    have b' : g p (2 + j) = nn P := of_decide_eq_true b
    rcases hI p (2 + j) hp (by omega) with c | ⟨Q, c1, c2, _, c3⟩
    · rw [c] at b'; exact absurd b'.symm (nnm (by omega))
    · have := nni (by omega) (by omega) (c2.symm.trans b')
      have := c3 (by omega); omega
  omega
theorem pc_run {g : Nat → Nat → Int32} {p P q d e : Nat} (hp : p < 6) (hP : P < 6) (hI : GI g) (hq : q < 3) (h : SH q d e (g p)) : pc (g p) P = if q = P / 2 then 1 else 0 := by
  rw [pc_txt hp hP hI]
  simp (disch := omega) only [cnt, h.1, h.2.1, decide_eq_true_eq, nn_eq]
  by_cases c : q = P / 2
  · rw [if_pos c]
    by_cases c2 : 2 * q = P
    · rw [if_pos c2, if_neg (by omega)]
    · rw [if_neg c2, if_pos (by omega)]
  · rw [if_neg c, if_neg (by omega), if_neg (by omega)]
theorem pa_tc {s t : KS} {p P : Nat} (hp : p < 6) (hP : P < 6) (hI : GI s.2) (h : PA s t p) : (if decide (t.1 16 p = 1 ∧ t.1 17 p = nn (P / 2)) = true then 1 else 0) = pc (s.2 p) P := by
  obtain ⟨e, h⟩ := h
  rcases h with ⟨a, b, q, d, e', hq, hd, _, _, _, e2, _, _, _, _, sh⟩ | ⟨a, b, c⟩ | ⟨a, b, b', c⟩
  · rw [pc_run hp hP hI hq sh, e2, ← e, a]
    by_cases c : q = P / 2
    · rw [if_pos c, c]; simp
    · rw [if_neg c]
      have : ¬ nn q = nn (P / 2) := fun x => c (nni (by omega) (by omega) x)
      simp [this]
  · rw [pc_off (by omega) c, ← e, a]; simp
  · rw [pc_off (by omega) c, ← e, a]; simp
theorem tc_uc {s t : KS} {P : Nat} (hP : P < 6) (hI : GI s.2) (h : ∀ p, p < 6 → PA s t p) : tc (t.1 16) (t.1 17) P = uc s.2 P := by
  unfold tc uc
  rw [cnt6]
  exact sum6_cong (fun p hp => pa_tc hp hP hI (h p hp))
theorem own_pair {nf ns P : Nat} {φ : Nat → Nat} {L : Nat → Prop} {s t : KS} (R : RQ nf ns φ L s t) (lP : L P) : p_X2_owners (nn (φ P)) t = some (.inl (some (s.1 10 P)), t) ∧ s.1 10 P = nn (uc s.2 P) := by
  obtain ⟨⟨hb, hC, hM, hL, hT, hU, hD, hW, hI, hE⟩, hA, _⟩ := R
  have hP := (hL.1 P lP).1
  have hu : s.1 10 P = nn (uc s.2 P) := (hU P hP).1
  refine ⟨?_, hu⟩
  by_cases c : P < 6
  · rw [hL.2.2.2.2.2.2.1 P c, owners_t c, tc_uc c hI hA, hu]
  · rw [owners_o ((hL.1 P lP).2.2.1 (by omega)), oc_uc hE hI hL lP (by omega), hu]
