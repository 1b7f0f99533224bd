/-! jumps, ends, and the run as a whole -/
def am_chk (cc : ByteArray) : am_I → Bool
  | [] => true
  | x :: r => decide (decode cc x.1 = .ok x.2) && ((match r with
    | [] => true
    | y :: _ => y.1 == x.1 + x.2.2) && am_chk cc r)
theorem am_chk_hd {cc : ByteArray} {pc n : Nat} {i : Instr} {r : am_I} (h : am_chk cc ((pc, i, n) :: r) = true) : decode cc pc = .ok (i, n) := by
  simp only [am_chk, Bool.and_eq_true, decide_eq_true_eq] at h
  exact h.1
theorem am_chk_tl {cc : ByteArray} {x : Nat × Instr × Nat} {r : am_I} (h : am_chk cc (x :: r) = true) : am_chk cc r = true := by
  simp only [am_chk, Bool.and_eq_true] at h
  exact h.2.2
theorem am_chk_nx {cc : ByteArray} {x y : Nat × Instr × Nat} {r : am_I} (h : am_chk cc (x :: y :: r) = true) : y.1 = x.1 + x.2.2 := by
  simp only [am_chk, Bool.and_eq_true, beq_iff_eq] at h
  exact h.2.1
theorem am_chk_from {cc : ByteArray} (t : Nat) : ∀ {is : am_I}, am_chk cc is = true → am_chk cc (am_from t is) = true
  | [], h => h
  | x :: r, h => by
    unfold am_from
    rw [List.dropWhile_cons]
    split
    · exact am_chk_from t (am_chk_tl h)
    · exact h
theorem am_from_hd (t : Nat) : ∀ {is : am_I} {x : Nat × Instr × Nat} {r : am_I}, am_from t is = x :: r → x.1 = t
  | [], x, r, h => by cases h
  | y :: is, x, r, h => by
    unfold am_from at h
    rw [List.dropWhile_cons] at h
    split at h
    · exact am_from_hd t h
    · rename_i hy
      cases h
      simpa using hy
theorem am_tg_ok {pc : Nat} {off : Int} {K : Nat → Option am_O} {out : am_O} (h : am_tg pc off K = some out) : ∃ t : Nat, (pc : Int) + off = (t : Int) ∧ K t = some out := by
  unfold am_tg at h
  split at h
  · rename_i t ht
    exact ⟨t, ht, h⟩
  · cases h
theorem am_tsl_ok {x : Int32} {K : Int → Option am_O} {d : Int} {out : am_O} : ∀ {os : List Int} {v : Int}, am_tsl x K d v os = some out → (∃ (j : Nat) (o : Int), os[j]? = some o ∧ x.toInt = v + j ∧ K o = some out) ∨ ((∀ j : Nat, j < os.length → x.toInt ≠ v + j) ∧ K d = some out)
  | [], v, h => Or.inr ⟨fun j hj => absurd hj (Nat.not_lt_zero j), h⟩
  | o :: os, v, h => by
    unfold am_tsl at h
    by_cases hx : x.toInt = v
    · rw [decide_eq_true hx, cond_true] at h
      exact Or.inl ⟨0, o, rfl, by simp [hx], h⟩
    · rw [decide_eq_false hx, cond_false] at h
      rcases am_tsl_ok h with ⟨j, o', h1, h2, h3⟩ | ⟨h1, h2⟩
      · exact Or.inl ⟨j + 1, o', by simpa using h1, by rw [h2]; push_cast; omega, h3⟩
      · refine Or.inr ⟨fun j hj => ?_, h2⟩
        cases j with
        | zero => simpa using hx
        | succ j =>
          have := h1 j (by simpa using hj)
          intro q
          apply this
          rw [q]; push_cast; omega
theorem am_lsl_ok {x : Int32} {K : Int → Option am_O} {d : Int} {out : am_O} : ∀ {ps : List (Int × Int)}, am_lsl x K d ps = some out → K (Op.lookupswitch.offset ps d x.toInt) = some out
  | [], h => h
  | (v, o) :: os, h => by
    unfold am_lsl at h
    rw [Op.lookupswitch.offset_cons]
    by_cases hx : v = x.toInt
    · rw [decide_eq_true hx, cond_true] at h
      rw [if_pos hx]
      exact h
    · rw [decide_eq_false hx, cond_false] at h
      rw [if_neg hx]
      exact am_lsl_ok h
/-- the exceptions' classes by number -/
def am_xn (x : Nat) : String := match x with
  | 0 => "java/lang/IllegalArgumentException"
  | 1 => "java/util/NoSuchElementException"
  | 2 => "java/lang/UnsupportedOperationException"
  | 3 => "java/lang/IllegalStateException"
  | _ => "java/lang/IndexOutOfBoundsException"
theorem am_x4_lt (x : Nat) : am_x4 x < 5 := by
  unfold am_x4
  split <;> omega
theorem am_xn_x4 (x : Nat) : am_xn (am_x4 x) = am_xn x := by
  unfold am_x4
  split
  · rfl
  · rename_i h
    match x, h with
    | 0, h => exact absurd (by decide) h
    | 1, h => exact absurd (by decide) h
    | 2, h => exact absurd (by decide) h
    | 3, h => exact absurd (by decide) h
    | x + 4, _ => rfl
/-- what holds behind a method -/
def am_E (D : va_G) (cl : List vw_C) (tc : Nat → ClassId) (A : Nat → Prop) (n0 : Nat) (ad0 ad : am_A) (h : am_H) (t : State) : Prop := n0 ≤ h.length ∧ (∀ k, k < n0 → ad.1 k = ad0.1 k) ∧ ad.2 = ad0.2 ∧ va_P D cl (am_ws tc ad 0 h) t.heap ∧ va_D A (am_ws tc ad 0 h)
def am_Qc (D : va_G) (cl : List vw_C) (tc : Nat → ClassId) (A : Nat → Prop) (n0 : Nat) (ad0 : am_A) (out : am_O) : Array Value → State → Outcome → State → Prop := fun _ st o t => (∃ (v : Option am_V) (h : am_H) (ad : am_A), out = (.inl v, h) ∧ o = .returned (v.map (am_t ad)) ∧ am_E D cl tc A n0 ad0 ad h t) ∧ va_F A st t
def am_XC (D : va_G) (cl : List vw_C) (tc : Nat → ClassId) (A : Nat → Prop) (n0 : Nat) (ad0 : am_A) (out : am_O) : String → State → State → Prop := fun E st t => (∃ (x : Nat) (h : am_H) (ad : am_A), E = am_xn x ∧ out = (.inr x, h) ∧ am_E D cl tc A n0 ad0 ad h t) ∧ va_F A st t
def am_Q (below : List Frame) (args : Array Value) (s : State) (R : Room) (D : va_G) (cl : List vw_C) (tc : Nat → ClassId) (A : Nat → Prop) (n0 : Nat) (ad0 : am_A) (out : am_O) : State → Prop := vx_MQ below (am_Qc D cl tc A n0 ad0 out) (am_XC D cl tc A n0 ad0 out) args s R.cells R.slots A
section AMG
variable {p : Program} {l : Launch} {e : Env} {R : Room} {s : State} {m : MethodId} {args : Array Value} {below : List Frame} {meth : Method} {c : Code} {Q : State → Prop} {D : va_G} {cl : List vw_C} {tc : Nat → ClassId} {A : Nat → Prop} {nL n0 : Nat} {ad0 : am_A} {cc : ByteArray} {own : String} {Ts : List Cond} {rs : Nat → Option (Nat × (Nat → Int32))}
theorem am_br_ok (G : am_G p m c cc nL s args Ts own D cl tc A rs ad0) {i : Instr} {n pc : Nat} {lv : am_Lv} {st : List am_V} {h : am_H} {b : Nat × Nat} {K : List am_V → Nat → Option am_O} {N : List am_V → Option am_O} {out : am_O} (hd : decode cc pc = .ok (i, n)) (h1 : am_br pc i n st K N = some out) (kj : ∀ st' t, K st' t = some out → am_W p l e R s m args below meth c Q D cl tc A nL n0 ad0 t lv st' h b) (kn : ∀ st', N st' = some out → am_W p l e R s m args below meth c Q D cl tc A nL n0 ad0 (pc + n) lv st' h b) : am_W p l e R s m args below meth c Q D cl tc A nL n0 ad0 pc lv st h b := by
  obtain ⟨⟨hx, hb, hml, hown, hts⟩, hK, hA, hro⟩ := G
  intro ad H locs cells slots ls J hl hc hs
  have kj : ∀ st' t, K st' t = some out → W p l e R s m args below meth c H locs cells slots Q (F0 m t ls (st'.map (am_t ad))) := fun st' t q => kj st' t q ad H locs cells slots ls J hl hc hs
  have kn : ∀ st', N st' = some out → W p l e R s m args below meth c H locs cells slots Q (F0 m (pc + n) ls (st'.map (am_t ad))) := fun st' q => kn st' q ad H locs cells slots ls J hl hc hs
  unfold am_br at h1
  split at h1
  · replace h1 := am_if h1
    obtain ⟨rfl, h1⟩ := h1
    obtain ⟨t, ht, h1⟩ := am_tg_ok h1
    exact lv_goto hx hb hd ht (kj _ _ h1)
  · rename_i k off
    replace h1 := am_if h1
    obtain ⟨rfl, h1⟩ := h1
    split at h1
    · obtain ⟨t, ht, h1⟩ := am_tg_ok h1
      cases k with
      | eq => exact lv_icmp_eq hx hb hd ht (fun q => kj _ _ (by simpa [am_cmp, q] using h1)) (fun q => kn _ (by simpa [am_cmp, q] using h1))
      | ne => exact lv_icmp_ne hx hb hd ht (fun q => kj _ _ (by simpa [am_cmp, q] using h1)) (fun q => kn _ (by simpa [am_cmp, q] using h1))
      | lt => exact lv_icmp_lt hx hb hd ht (fun q => kj _ _ (by simpa [am_cmp, q] using h1)) (fun q => kn _ (by simpa [am_cmp, q] using h1))
      | ge => exact lv_icmp_ge hx hb hd ht (fun q => kj _ _ (by simpa [am_cmp, q] using h1)) (fun q => kn _ (by simpa [am_cmp, q] using h1))
      | gt => exact lv_icmp_gt hx hb hd ht (fun q => kj _ _ (by simpa [am_cmp, q] using h1)) (fun q => kn _ (by simpa [am_cmp, q] using h1))
      | le => exact lv_icmp_le hx hb hd ht (fun q => kj _ _ (by simpa [am_cmp, q] using h1)) (fun q => kn _ (by simpa [am_cmp, q] using h1))
    · cases h1
  · rename_i k off
    replace h1 := am_if h1
    obtain ⟨rfl, h1⟩ := h1
    split at h1
    · obtain ⟨t, ht, h1⟩ := am_tg_ok h1
      cases k with
      | eq => exact lv_if_eq hx hb hd ht (fun q => kj _ _ (by simpa [am_cmp, q] using h1)) (fun q => kn _ (by simpa [am_cmp, q] using h1))
      | ne => exact lv_if_ne hx hb hd ht (fun q => kj _ _ (by simpa [am_cmp, q] using h1)) (fun q => kn _ (by simpa [am_cmp, q] using h1))
      | lt => exact lv_if_lt hx hb hd ht (fun q => kj _ _ (by simpa [am_cmp, q] using h1)) (fun q => kn _ (by simpa [am_cmp, q] using h1))
      | ge => exact lv_if_ge hx hb hd ht (fun q => kj _ _ (by simpa [am_cmp, q] using h1)) (fun q => kn _ (by simpa [am_cmp, q] using h1))
      | gt => exact lv_if_gt hx hb hd ht (fun q => kj _ _ (by simpa [am_cmp, q] using h1)) (fun q => kn _ (by simpa [am_cmp, q] using h1))
      | le => exact lv_if_le hx hb hd ht (fun q => kj _ _ (by simpa [am_cmp, q] using h1)) (fun q => kn _ (by simpa [am_cmp, q] using h1))
    · cases h1
  · rename_i d lo hi offs
    split at h1
    · rename_i x r
      obtain ⟨hhi, h1⟩ := am_if h1
      rcases am_tsl_ok h1 with ⟨j, o, h2, h3, h4⟩ | ⟨h2, h3⟩
      · obtain ⟨t, ht, h4⟩ := am_tg_ok h4
        have hj := (List.getElem?_eq_some_iff.mp h2).1
        have hj2 : (x.toInt - lo).toNat = j := by omega
        exact lv_tableIn hx hb hd (by omega) (by omega) (by rw [hj2, ← Array.getElem?_toList]; exact h2) ht (kj _ _ h4)
      · obtain ⟨t, ht, h3⟩ := am_tg_ok h3
        refine lv_tableOut hx hb hd ?_ ht (kj _ _ h3)
        by_cases q1 : x.toInt < lo
        · exact Or.inl q1
        · refine Or.inr ?_
          have := h2 (x.toInt - lo).toNat
          by_cases q2 : hi < x.toInt
          · exact q2
          · exact absurd (show x.toInt = lo + ((x.toInt - lo).toNat : Int) by omega) (this (by omega))
    · cases h1
  · rename_i d ps
    split at h1
    · obtain ⟨hp, h1⟩ := am_if h1
      obtain ⟨t, ht, h1⟩ := am_tg_ok (am_lsl_ok h1)
      exact lv_lookup hx hb hd hp rfl ht (kj _ _ h1)
    · cases h1
  · cases h1
theorem am_re_ok (G : am_G p m c cc nL s args Ts own D cl tc A rs ad0) {rt : Option FieldType} (hrt : meth.sig.returnType = rt) (hlocks : meth.locks = false) {i : Instr} {n pc : Nat} {lv : am_Lv} {st : List am_V} {h : am_H} {b : Nat × Nat} {out : am_O} (hd : decode cc pc = .ok (i, n)) (h1 : am_re rt i n st h = some out) : am_W p l e R s m args below meth c (am_Q below args s R D cl tc A n0 ad0 out) D cl tc A nL n0 ad0 pc lv st h b := by
  obtain ⟨⟨hx, hb, hml, hown, hts⟩, hK, hA, hro⟩ := G
  intro ad H locs cells slots ls J hl hc hs
  obtain ⟨j1, j2, j3, hP, hD, hS⟩ := J
  unfold am_re at h1
  split at h1
  · replace h1 := am_if h1
    obtain ⟨rfl, h1⟩ := h1
    split at h1
    · rename_i x
      obtain ⟨hz, h1⟩ := am_bif h1
      cases h1
      refine vx_ret (W.widen (k := R.cells) (n := R.slots) (by omega) (by omega) ?_)
      have fin : ∀ ty, meth.sig.returnType = some ty → narrow ty (.int x) = .int x → W p l e R s m args below meth c H locs R.cells R.slots (MQ below (am_Qc D cl tc A n0 ad0 (.inl (some (.inl (.int x))), h)) args s R.cells R.slots A) (F0 m pc ls [.int x]) := fun ty hty hn =>
        W.zret hx hb hty hn (fun t ht _ => ⟨⟨some (.inl (.int x)), h, ad, rfl, rfl, j1, j2, j3, by rw [ht]; exact hP, hD⟩, hS.F ht⟩) hS.2.2 hd hlocks
      unfold am_rt at hz
      split at hz
      · exact fin .int hrt rfl
      · refine fin .boolean hrt ?_
        simp only [Bool.or_eq_true, decide_eq_true_eq] at hz
        rcases hz with rfl | rfl
        · decide +kernel
        · decide +kernel
      · cases hz
    · cases h1
  · replace h1 := am_if h1
    obtain ⟨rfl, h1⟩ := h1
    split at h1
    · replace h1 := am_if h1
      obtain ⟨rfl, h1⟩ := h1
      cases h1
      refine vx_ret (W.widen (k := R.cells) (n := R.slots) (by omega) (by omega) ?_)
      exact W.vret hx hb hrt (fun t ht _ => ⟨⟨none, h, ad, rfl, rfl, j1, j2, j3, by rw [ht]; exact hP, hD⟩, hS.F ht⟩) hS.2.2 hd hlocks
    · cases h1
  · cases h1
/-- the judgement with an exception, of the number x, thrown over the frame -/
def am_WX (p : Program) (l : Launch) (e : Env) (R : Room) (s : State) (m : MethodId) (args : Array Value) (below : List Frame) (meth : Method) (c : Code) (Q : State → Prop) (D : va_G) (cl : List vw_C) (tc : Nat → ClassId) (A : Nat → Prop) (nL n0 : Nat) (ad0 : am_A) (pc : Nat) (lv : am_Lv) (x : Nat) (h : am_H) (b : Nat × Nat) : Prop :=
  ∀ (ad : am_A) (H : Heap) (locs : List Loc) (cells slots : Nat) (ls : Array Slot) (rst : List Value) (q : Addr) (ce : Cell), am_J D cl tc A s n0 ad0 ad h H locs → lv_has ls nL (lv.map fun q => (q.1, am_t ad q.2)) → cells + b.1 ≤ R.cells → slots + b.2 ≤ R.slots → H[q]? = some ce → ce.vm = .none → s.vm.findClass (am_xn x) = some ce.cls → vx_W p l e R s m args below meth c H locs cells slots Q (F0 m pc ls rst) q
/-- an entry of the pool: what it does here is what the run says -/
def am_op (p : Program) (l : Launch) (e : Env) (R : Room) (s : State) (m : MethodId) (args : Array Value) (below : List Frame) (meth : Method) (c : Code) (D : va_G) (cl : List vw_C) (tc : Nat → ClassId) (A : Nat → Prop) (nL n0 : Nat) (ad0 : am_A) (cc : ByteArray) (key : Nat × Nat) (φ : am_F) : Prop :=
  ∀ (out : am_O) (pc n : Nat) (i : Instr) (is : am_I) (lv : am_Lv) (st : List am_V) (h : am_H) (b : Nat × Nat) (K : am_K3) (KX : am_KX), am_key i = key → am_chk cc ((pc, i, n) :: is) = true → φ ((pc, i, n) :: is) lv st h b K KX = some out →
    (∀ st' h' b', K st' h' b' = some out → am_W p l e R s m args below meth c (am_Q below args s R D cl tc A n0 ad0 out) D cl tc A nL n0 ad0 (pc + n) lv st' h' b') →
    (∀ x h' b', KX x h' b' = some out → am_WX p l e R s m args below meth c (am_Q below args s R D cl tc A n0 ad0 out) D cl tc A nL n0 ad0 pc lv x h' b') → am_W p l e R s m args below meth c (am_Q below args s R D cl tc A n0 ad0 out) D cl tc A nL n0 ad0 pc lv st h b
/-- the table of a method's handlers -/
def am_tb (hs : am_Hs) : List (Nat × Nat × Nat × Nat) := hs.map (fun q => (q.1, q.2.1, q.2.2.1, q.2.2.2.1))
/-- what the tables say of the handlers' classes -/
def am_hk (s : State) (args : Array Value) (own : String) (hs : am_Hs) : Prop := ∀ q ∈ hs, q.2.2.2.1 ≠ 0 ∧ (Cond.classLink own q.2.2.2.1 (am_xn q.2.2.2.2)).before args s = true ∧ (Cond.castable (am_xn q.2.2.2.2) (am_xn q.2.2.2.2)).before args s = true ∧ ∀ x, x < 5 → x ≠ q.2.2.2.2 → va_Nc (am_xn x) (am_xn q.2.2.2.2) s
theorem am_fh_none {pc x : Nat} : ∀ {hs : am_Hs}, am_fh hs pc x = none → ∀ q ∈ hs, (¬ q.1 ≤ pc ∨ ¬ pc < q.2.1) ∨ am_x4 x ≠ q.2.2.2.2
  | [], _ => fun q hq => by cases hq
  | (a, z, t, k, y) :: r, h => by
    unfold am_fh at h
    intro q hq
    by_cases h1 : a ≤ pc
    · rw [if_pos h1] at h
      by_cases h2 : pc < z
      · rw [if_pos h2] at h
        by_cases h3 : am_x4 x = y
        · rw [if_pos h3] at h; cases h
        · rw [if_neg h3] at h
          rcases List.mem_cons.mp hq with rfl | hq
          · exact Or.inr h3
          · exact am_fh_none h q hq
      · rw [if_neg h2] at h
        rcases List.mem_cons.mp hq with rfl | hq
        · exact Or.inl (Or.inr h2)
        · exact am_fh_none h q hq
    · rw [if_neg h1] at h
      rcases List.mem_cons.mp hq with rfl | hq
      · exact Or.inl (Or.inl h1)
      · exact am_fh_none h q hq
theorem am_fh_some {pc x t : Nat} : ∀ {hs : am_Hs}, am_fh hs pc x = some t → ∃ pre q suf, hs = pre ++ q :: suf ∧ (∀ z ∈ pre, (¬ z.1 ≤ pc ∨ ¬ pc < z.2.1) ∨ am_x4 x ≠ z.2.2.2.2) ∧ q.1 ≤ pc ∧ pc < q.2.1 ∧ q.2.2.1 = t ∧ q.2.2.2.2 = am_x4 x
  | [], h => by cases h
  | (a, z, t', k, y) :: r, h => by
    unfold am_fh at h
    have rc0 : am_fh r pc x = some t → ((¬ a ≤ pc ∨ ¬ pc < z) ∨ am_x4 x ≠ y) → ∃ pre q suf, (a, z, t', k, y) :: r = pre ++ q :: suf ∧ (∀ z ∈ pre, (¬ z.1 ≤ pc ∨ ¬ pc < z.2.1) ∨ am_x4 x ≠ z.2.2.2.2) ∧ q.1 ≤ pc ∧ pc < q.2.1 ∧ q.2.2.1 = t ∧ q.2.2.2.2 = am_x4 x := by
      intro h9 hp
      obtain ⟨pre, q, suf, e1, e2, e3⟩ := am_fh_some h9
      refine ⟨(a, z, t', k, y) :: pre, q, suf, by rw [e1]; rfl, ?_, e3⟩
      intro w hw
      rcases List.mem_cons.mp hw with rfl | hw
      · exact hp
      · exact e2 w hw
    by_cases h1 : a ≤ pc
    · rw [if_pos h1] at h
      by_cases h2 : pc < z
      · rw [if_pos h2] at h
        by_cases h3 : am_x4 x = y
        · rw [if_pos h3] at h
          cases h
          exact ⟨[], _, r, rfl, (fun w hw => by cases hw), h1, h2, rfl, h3.symm⟩
        · rw [if_neg h3] at h
          exact rc0 h (Or.inr h3)
      · rw [if_neg h2] at h
        exact rc0 h (Or.inl (Or.inr h2))
    · rw [if_neg h1] at h
      exact rc0 h (Or.inl (Or.inl h1))
theorem am_rmm (ad : am_A) (lv : am_Lv) (i : Nat) : (am_rm lv i).map (fun q => (q.1, am_t ad q.2)) = (lv.map fun q => (q.1, am_t ad q.2)).filter (fun q => !(q.1 == i) && !(q.1 + 1 == i && q.2.category == 2)) := by
  simp only [am_rm, List.filter_map, Function.comp_def, am_t_cat]
theorem am_fewer {pc : Nat} {lv lv' : am_Lv} {st : List am_V} {h : am_H} {b : Nat × Nat} (hsub : ∀ q ∈ lv', q ∈ lv) (k : am_W p l e R s m args below meth c Q D cl tc A nL n0 ad0 pc lv' st h b) : am_W p l e R s m args below meth c Q D cl tc A nL n0 ad0 pc lv st h b :=
  fun ad H locs cells slots ls J hl hc hs => k ad H locs cells slots ls J ⟨hl.1, hl.2.1, fun q hq => by
    obtain ⟨w, hw, rfl⟩ := List.mem_map.mp hq
    exact hl.2.2 _ (List.mem_map.mpr ⟨w, hsub w hw, rfl⟩)⟩ hc hs
theorem am_go_ok (G : am_G p m c cc nL s args Ts own D cl tc A rs ad0) {rt : Option FieldType} (hrt : meth.sig.returnType = rt) (hlocks : meth.locks = false) {hs : am_Hs} {kp : am_Kp} (htb : c.exceptionTable.toList = tableOf (am_tb hs)) (hhk : am_hk s args own hs) {X : am_X} (hX : ∀ key φ, X.lookup key = some φ → am_op p l e R s m args below meth c D cl tc A nL n0 ad0 cc key φ) {jmp : am_Kj} {out : am_O} (hj : ∀ t lv st h b, jmp t lv st h b = some out → am_W p l e R s m args below meth c (am_Q below args s R D cl tc A n0 ad0 out) D cl tc A nL n0 ad0 t lv st h b) :
    ∀ (f : Nat) (is : am_I) (lv : am_Lv) (st : List am_V) (h : am_H) (b : Nat × Nat) (pc : Nat), am_chk cc is = true → (∀ x r, is = x :: r → x.1 = pc) → am_go X nL rt rs hs kp jmp f is lv st h b = some out → am_W p l e R s m args below meth c (am_Q below args s R D cl tc A n0 ad0 out) D cl tc A nL n0 ad0 pc lv st h b := by
  intro f
  induction f with
  | zero => intro is lv st h b pc _ _ h1; simp [am_go] at h1
  | succ f ih =>
    intro is lv st h b pc hch hpc h1
    cases is with
    | nil => simp [am_go] at h1
    | cons x is =>
      obtain ⟨pc0, i, n⟩ := x
      have e0 : pc0 = pc := hpc _ _ rfl
      subst e0
      have hd := am_chk_hd hch
      have nx : ∀ x r, is = x :: r → x.1 = pc0 + n := fun x r hr => by subst hr; exact am_chk_nx hch
      have htl := am_chk_tl hch
      unfold am_go at h1
      split at h1
      · exact am_fewer (am_kp_sub (kp := kp) (pc := pc0)) (am_s1_ok G hd h1 (fun lv' st' q => ih is lv' st' h b _ htl nx q))
      · exact am_fewer (am_kp_sub (kp := kp) (pc := pc0)) (am_s2_ok G hd h1 (fun st' h' q => ih is _ st' h' b _ htl nx q))
      · refine am_br_ok G hd h1 (fun st' t q => ?_) (fun st' q => ih is lv st' h b _ htl nx q)
        split at q
        · exact am_fewer am_kp_sub (hj _ _ _ _ _ q)
        · exact ih _ _ _ _ _ _ (am_chk_from t htl) (fun x r hr => am_from_hd t hr) q
      · exact am_re_ok G hrt hlocks hd h1
      · split at h1
        · rename_i φ hφ
          refine hX _ _ hφ out pc0 n i is lv st h b _ _ rfl hch h1 (fun st' h' b' q => ih is lv st' h' b' _ htl nx q) (fun x h' b' q => ?_)
          have hN : ∀ z ∈ hs, ((¬ z.1 ≤ pc0 ∨ ¬ pc0 < z.2.1) ∨ am_x4 x ≠ z.2.2.2.2) → covers ⟨z.1, z.2.1, z.2.2.1, z.2.2.2.1⟩ pc0 = false ∨ (z.2.2.2.1 ≠ 0 ∧ ∃ nm : String, (Cond.classLink own z.2.2.2.1 nm).before args s = true ∧ va_Nc (am_xn x) nm s) := by
            intro z hz h9
            obtain ⟨g1, g2, g3, g4⟩ := hhk z hz
            rcases h9 with h9 | h9
            · refine Or.inl ?_
              simp only [covers, Bool.and_eq_false_iff, decide_eq_false_iff_not]
              omega
            · exact Or.inr ⟨g1, _, g2, am_xn_x4 x ▸ g4 (am_x4 x) (am_x4_lt x) h9⟩
          obtain ⟨⟨hx, hb, hml, hown, hts⟩, hK, hA, hro⟩ := G
          intro ad H locs cells slots ls rst qa ce J hl hc hs1 hce hcv hcl
          split at q
          · rename_i hf
            cases q
            obtain ⟨j1, j2, j3, hP, hD, hS⟩ := J
            exact vx_outP (E := am_xn x) hown hlocks (fun z hz => by
              rw [htb] at hz
              obtain ⟨z1, hz1, rfl⟩ := List.mem_map.mp hz
              obtain ⟨z2, hz2, rfl⟩ := List.mem_map.mp hz1
              exact hN z2 hz2 (am_fh_none hf z2 hz2)) hce hcv hcl (fun t ht _ => ⟨⟨x, h', ad, rfl, rfl, j1, j2, j3, by rw [ht]; exact hP, hD⟩, hS.F ht⟩) hS.2.2 (by omega) (by omega)
          · rename_i t hf
            obtain ⟨pre, z, suf, e1, e2, e3, e4, e5, e6⟩ := am_fh_some hf
            have hzin : z ∈ hs := by rw [e1]; exact List.mem_append_right _ List.mem_cons_self
            obtain ⟨g1, g2, g3, g4⟩ := hhk z hzin
            subst e5
            rw [e6, am_xn_x4] at g2 g3
            refine vx_catch (own := own) (name := am_xn x) (E := am_xn x) hown ((pre.map (fun q => (q.1, q.2.1, q.2.2.1, q.2.2.2.1))).map fun q => ⟨q.1, q.2.1, q.2.2.1, q.2.2.2⟩) ⟨z.1, z.2.1, z.2.2.1, z.2.2.2.1⟩ ((suf.map (fun q => (q.1, q.2.1, q.2.2.1, q.2.2.2.1))).map fun q => ⟨q.1, q.2.1, q.2.2.1, q.2.2.2⟩) (by rw [htb, e1]; simp [am_tb, tableOf]) (fun w hw => by
              obtain ⟨z1, hz1, rfl⟩ := List.mem_map.mp hw
              obtain ⟨z2, hz2, rfl⟩ := List.mem_map.mp hz1
              exact hN z2 (by rw [e1]; exact List.mem_append_left _ hz2) (e2 z2 hz2)) (by simp only [covers, Bool.and_eq_true, decide_eq_true_eq]; exact ⟨e3, e4⟩) g1 g2 g3 hce hcv hcl ?_
            have hfr := am_chk_from (cc := cc) z.2.2.1 htl
            have hhd : ∀ x r, am_from z.2.2.1 is = x :: r → x.1 = z.2.2.1 := fun x r hr => am_from_hd _ hr
            split at q
            · rename_i pc9 k n9 is' hq9
              rw [hq9] at hfr hhd
              replace q := am_if q
              obtain ⟨rfl, q⟩ := q
              obtain ⟨hk9, q⟩ := am_if q
              have e9 : pc9 = z.2.2.1 := hhd _ _ rfl
              subst e9
              refine lv_astore hx hb (am_chk_hd hfr) hl hk9 rfl (fun ls' hl' => ?_)
              exact ih is' (am_rm lv k) [] h' b' _ (am_chk_tl hfr) (fun x r hr => by subst hr; exact am_chk_nx hfr) q ad H locs cells slots ls' J (by rw [am_rmm]; exact ⟨hl'.1, hl'.2.1, fun w hw => hl'.2.2 w (List.mem_cons_of_mem _ hw)⟩) hc hs1
            · rename_i pc9 k n9 is' hq9
              rw [hq9] at hfr hhd
              replace q := am_if q
              obtain ⟨rfl, q⟩ := q
              obtain ⟨hk9, q⟩ := am_if q
              have e9 : pc9 = z.2.2.1 := hhd _ _ rfl
              subst e9
              refine lv_astore_n hx hb (am_chk_hd hfr) rfl hl hk9 rfl (fun ls' hl' => ?_)
              exact ih is' (am_rm lv k.val) [] h' b' _ (am_chk_tl hfr) (fun x r hr => by subst hr; exact am_chk_nx hfr) q ad H locs cells slots ls' J (by rw [am_rmm]; exact ⟨hl'.1, hl'.2.1, fun w hw => hl'.2.2 w (List.mem_cons_of_mem _ hw)⟩) hc hs1
            · cases q
        · cases h1
theorem am_lp_ok (G : am_G p m c cc nL s args Ts own D cl tc A rs ad0) {rt : Option FieldType} (hrt : meth.sig.returnType = rt) (hlocks : meth.locks = false) {hs : am_Hs} {kp : am_Kp} (htb : c.exceptionTable.toList = tableOf (am_tb hs)) (hhk : am_hk s args own hs) {T : am_I} (hT : am_chk cc T = true) {X : am_X} (hX : ∀ key φ, X.lookup key = some φ → am_op p l e R s m args below meth c D cl tc A nL n0 ad0 cc key φ) {out : am_O} :
    ∀ (N t : Nat) (lv : am_Lv) (st : List am_V) (h : am_H) (b : Nat × Nat), am_lp T X nL rt rs hs kp N t lv st h b = some out → am_W p l e R s m args below meth c (am_Q below args s R D cl tc A n0 ad0 out) D cl tc A nL n0 ad0 t lv st h b := by
  intro N
  induction N with
  | zero => intro t lv st h b h1; cases h1
  | succ N ih =>
    intro t lv st h b h1
    exact am_go_ok G hrt hlocks htb hhk hX (fun t lv st h b q => ih t lv st h b q) 1000 (am_from t T) lv st h b t (am_chk_from t hT) (fun x r hr => am_from_hd t hr) h1
end AMG
