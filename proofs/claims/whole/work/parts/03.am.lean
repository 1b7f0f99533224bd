/-! THE ABSTRACT MACHINE: values, cells and heaps by number; what a heap by numbers says of the machine's heap -/
abbrev am_V : Type := Value ⊕ (Nat × Nat)
abbrev am_C : Type := (Nat × Nat × (Nat → Int32)) ⊕ ((Nat × Nat × (Nat → Nat → Int32)) ⊕ ((Nat × List am_V) ⊕ (Nat × (Nat → Int64))))
abbrev am_H : Type := List am_C
abbrev am_O : Type := (Option am_V ⊕ Nat) × am_H
abbrev am_A : Type := (Nat → Option Nat → Nat) × (Nat → Nat)
abbrev am_Lv : Type := List (Nat × am_V)
abbrev am_I : Type := List (Nat × Instr × Nat)
/-- a value: cell k by its address, row j of the grid k by its own, the constant array j by its own -/
def am_t (ad : am_A) : am_V → Value
  | .inl (.ref k) => .ref (ad.1 k none)
  | .inl (.retAddr j) => .ref (ad.2 j)
  | .inl v => v
  | .inr q => .ref (ad.1 q.1 (some q.2))
def am_cat : am_V → Nat
  | .inl v => v.category
  | .inr _ => 1
theorem am_t_cat (ad : am_A) (v : am_V) : (am_t ad v).category = am_cat v := by
  cases v with
  | inl v => cases v <;> rfl
  | inr q => rfl
/-- the machine's cells of the cell k -/
def am_w1 (tc : Nat → ClassId) (ad : am_A) (k : Nat) : am_C → va_W
  | .inl (t, n, f) => [(ad.1 k none, .inl (tc t, n, .inl f))]
  | .inr (.inl (n, w, M)) => (ad.1 k none, .inl (tc 2, n, .inr (.inr (.inr (.inr (fun i => if i < n then some (ad.1 k (some i)) else none)))))) :: (List.range n).map (fun i => (ad.1 k (some i), .inl (tc 0, w, .inl (M i))))
  | .inr (.inr (.inl (ci, fs))) => [(ad.1 k none, .inr (ci, fs.map (am_t ad)))]
  | .inr (.inr (.inr (n, g))) => [(ad.1 k none, .inl (tc 3, n, .inr (.inl g)))]
def am_ws (tc : Nat → ClassId) (ad : am_A) : Nat → am_H → va_W
  | _, [] => []
  | k, c :: h => am_w1 tc ad k c ++ am_ws tc ad (k + 1) h
theorem am_split {tc : Nat → ClassId} {ad : am_A} : ∀ {h : am_H} {k0 k : Nat} {c : am_C}, h[k]? = some c → ∃ pre post : va_W, am_ws tc ad k0 h = pre ++ (am_w1 tc ad (k0 + k) c ++ post) ∧ ∀ c', am_ws tc ad k0 (h.set k c') = pre ++ (am_w1 tc ad (k0 + k) c' ++ post)
  | [], k0, k, c, hk => by simp at hk
  | d :: h, k0, 0, c, hk => by
    simp at hk
    subst hk
    exact ⟨[], am_ws tc ad (k0 + 1) h, rfl, fun c' => rfl⟩
  | d :: h, k0, k + 1, c, hk => by
    have hk' : h[k]? = some c := by simpa using hk
    obtain ⟨pre, post, e1, e2⟩ := am_split (tc := tc) (ad := ad) (k0 := k0 + 1) hk'
    refine ⟨am_w1 tc ad k0 d ++ pre, post, ?_, fun c' => ?_⟩
    · show am_w1 tc ad k0 d ++ am_ws tc ad (k0 + 1) h = _
      rw [e1, List.append_assoc, show k0 + (k + 1) = k0 + 1 + k by omega]
    · show am_w1 tc ad k0 d ++ am_ws tc ad (k0 + 1) (h.set k c') = _
      rw [e2 c', List.append_assoc, show k0 + (k + 1) = k0 + 1 + k by omega]
theorem am_pos {pre w post : va_W} {j : Nat} {x : Nat × va_E} (h : w[j]? = some x) : (pre ++ (w ++ post))[pre.length + j]? = some x := by
  rw [List.getElem?_append_right (Nat.le_add_right _ _), Nat.add_sub_cancel_left, List.getElem?_append_left (List.getElem?_eq_some_iff.mp h).1]
  exact h
theorem am_setw {pre w post : va_W} {j : Nat} {x : Nat × va_E} (h : j < w.length) : (pre ++ (w ++ post)).set (pre.length + j) x = pre ++ (w.set j x ++ post) := by
  rw [List.set_append_right _ _ (Nat.le_add_right _ _), Nat.add_sub_cancel_left, List.set_append_left _ _ h]
def am_tys (tc : Nat → ClassId) : List (ClassId × FieldType) := [(tc 0, .int), (tc 1, .boolean), (tc 2, .array .int), (tc 3, .long)]
/-- the constant arrays -/
def am_ro (rs : Nat → Option (Nat × (Nat → Int32))) (ra : Nat → Nat) (A : Nat → Prop) (U : State) (H : Heap) : Prop := ∀ (j n : Nat) (f : Nat → Int32), rs j = some (n, f) → va_T .int (ra j) n (fun i => .int (f i)) A U H
/-- the heap by numbers, as the machine holds it -/
def am_J (D : va_G) (cl : List vw_C) (tc : Nat → ClassId) (A : Nat → Prop) (s : State) (n0 : Nat) (ad0 : am_A) (ad : am_A) (h : am_H) (H : Heap) (locs : List Loc) : Prop :=
  n0 ≤ h.length ∧ (∀ k, k < n0 → ad.1 k = ad0.1 k) ∧ ad.2 = ad0.2 ∧ va_P D cl (am_ws tc ad 0 h) H ∧ va_D A (am_ws tc ad 0 h) ∧ va_S A s.heap H locs
/-- a read: the place of cell k's j-th machine cell -/
theorem am_rd {D : va_G} {cl : List vw_C} {tc : Nat → ClassId} {A : Nat → Prop} {s : State} {n0 : Nat} {ad0 ad : am_A} {h : am_H} {H : Heap} {locs : List Loc} (J : am_J D cl tc A s n0 ad0 ad h H locs) {k : Nat} {c : am_C} (hk : h[k]? = some c) (j : Nat) {y : Nat × va_E} (hy : (am_w1 tc ad k c)[j]? = some y) : ∃ q0 : Nat, (am_ws tc ad 0 h)[q0]? = some y := by
  obtain ⟨pre, post, e1, -⟩ := am_split (tc := tc) (ad := ad) (k0 := 0) hk
  rw [Nat.zero_add] at e1
  exact ⟨pre.length + j, by rw [e1]; exact am_pos hy⟩
/-- a write: cell k becomes c', its j-th machine cell x -/
theorem am_wr {D : va_G} {cl : List vw_C} {tc : Nat → ClassId} {A : Nat → Prop} {s : State} {n0 : Nat} {ad0 ad : am_A} {h : am_H} {H : Heap} {locs : List Loc} (J : am_J D cl tc A s n0 ad0 ad h H locs) {k : Nat} {c : am_C} (hk : h[k]? = some c) (c' : am_C) (j : Nat) (x : Nat × va_E) (hj : j < (am_w1 tc ad k c).length) (ew : am_w1 tc ad k c' = (am_w1 tc ad k c).set j x) :
    ∃ q0 : Nat, (∀ y, (am_w1 tc ad k c)[j]? = some y → (am_ws tc ad 0 h)[q0]? = some y) ∧ ∀ (H1 : Heap) (locs1 : List Loc), va_P D cl ((am_ws tc ad 0 h).set q0 x) H1 → va_D A ((am_ws tc ad 0 h).set q0 x) → va_S A s.heap H1 locs1 → am_J D cl tc A s n0 ad0 ad (h.set k c') H1 locs1 := by
  obtain ⟨pre, post, e1, e2⟩ := am_split (tc := tc) (ad := ad) (k0 := 0) hk
  rw [Nat.zero_add] at e1 e2
  obtain ⟨j1, j2, j3, j4, j5, j6⟩ := J
  refine ⟨pre.length + j, fun y hy => by rw [e1]; exact am_pos hy, fun H1 locs1 hP hD hS => ?_⟩
  have e3 : (am_ws tc ad 0 h).set (pre.length + j) x = am_ws tc ad 0 (h.set k c') := by rw [e1, am_setw hj, e2 c', ew]
  rw [e3] at hP hD
  exact ⟨by rw [List.length_set]; exact j1, j2, j3, hP, hD, hS⟩
/-- one row of a grid, one array -/
theorem am_rowset {α : Type} (g g' : Nat → α) (n j : Nat) (x : α) (hj : j < n) (h1 : g' j = x) (h2 : ∀ a, a ≠ j → g' a = g a) : (List.range n).map g' = ((List.range n).map g).set j x := by
  apply List.ext_getElem?
  intro a
  by_cases ha : a = j
  · subst ha
    rw [List.getElem?_set_self (by simpa using hj)]
    simp [hj, h1]
  · rw [List.getElem?_set_ne (Ne.symm ha)]
    by_cases hn : a < n
    · simp [hn, h2 a ha]
    · simp [hn]
section AMJ
variable {D : va_G} {cl : List vw_C} {tc : Nat → ClassId} {A : Nat → Prop} {s : State} {n0 : Nat} {ad0 ad : am_A} {h : am_H} {H : Heap} {locs : List Loc}
theorem am_rdR (J : am_J D cl tc A s n0 ad0 ad h H locs) {k n w j : Nat} {M : Nat → Nat → Int32} (hk : h[k]? = some (.inr (.inl (n, w, M)))) (hj : j < n) : ∃ q0 : Nat, (am_ws tc ad 0 h)[q0]? = some (ad.1 k (some j), .inl (tc 0, w, .inl (M j))) := by
  refine am_rd J hk (j + 1) ?_
  show ((List.range n).map (fun i => (ad.1 k (some i), (Sum.inl (tc 0, w, .inl (M i)) : va_E))))[j]? = _
  rw [List.getElem?_map, List.getElem?_range hj]
  rfl
theorem am_wrR (J : am_J D cl tc A s n0 ad0 ad h H locs) {k n w j : Nat} {M : Nat → Nat → Int32} (hk : h[k]? = some (.inr (.inl (n, w, M)))) (hj : j < n) (f : Nat → Int32) : ∃ q0 : Nat, (am_ws tc ad 0 h)[q0]? = some (ad.1 k (some j), .inl (tc 0, w, .inl (M j))) ∧ ∀ (H1 : Heap) (locs1 : List Loc), va_P D cl ((am_ws tc ad 0 h).set q0 (ad.1 k (some j), .inl (tc 0, w, .inl f))) H1 → va_D A ((am_ws tc ad 0 h).set q0 (ad.1 k (some j), .inl (tc 0, w, .inl f))) → va_S A s.heap H1 locs1 → am_J D cl tc A s n0 ad0 ad (h.set k (.inr (.inl (n, w, va_up M j f)))) H1 locs1 := by
  obtain ⟨q0, g1, g2⟩ := am_wr J hk (.inr (.inl (n, w, va_up M j f))) (j + 1) (ad.1 k (some j), .inl (tc 0, w, .inl f)) (by
    show j + 1 < ((List.range n).map (fun i => (ad.1 k (some i), (Sum.inl (tc 0, w, .inl (M i)) : va_E)))).length + 1
    rw [List.length_map, List.length_range]
    exact Nat.succ_lt_succ hj) (by
    show _ :: (List.range n).map (fun i => (ad.1 k (some i), (Sum.inl (tc 0, w, .inl (va_up M j f i)) : va_E))) = _ :: ((List.range n).map (fun i => (ad.1 k (some i), (Sum.inl (tc 0, w, .inl (M i)) : va_E)))).set j _
    congr 1
    exact am_rowset _ _ _ _ _ hj (by rw [va_up_self]) (fun a ha => by rw [show va_up M j f a = M a from if_neg ha]))
  refine ⟨q0, g1 _ ?_, g2⟩
  show ((List.range n).map (fun i => (ad.1 k (some i), (Sum.inl (tc 0, w, .inl (M i)) : va_E))))[j]? = _
  rw [List.getElem?_map, List.getElem?_range hj]
  rfl
theorem am_wrA (J : am_J D cl tc A s n0 ad0 ad h H locs) {k t n : Nat} {f : Nat → Int32} (hk : h[k]? = some (.inl (t, n, f))) (f' : Nat → Int32) : ∃ q0 : Nat, (am_ws tc ad 0 h)[q0]? = some (ad.1 k none, .inl (tc t, n, .inl f)) ∧ ∀ (H1 : Heap) (locs1 : List Loc), va_P D cl ((am_ws tc ad 0 h).set q0 (ad.1 k none, .inl (tc t, n, .inl f'))) H1 → va_D A ((am_ws tc ad 0 h).set q0 (ad.1 k none, .inl (tc t, n, .inl f'))) → va_S A s.heap H1 locs1 → am_J D cl tc A s n0 ad0 ad (h.set k (.inl (t, n, f'))) H1 locs1 := by
  obtain ⟨q0, g1, g2⟩ := am_wr J hk (.inl (t, n, f')) 0 (ad.1 k none, .inl (tc t, n, .inl f')) (by show 0 < 1; exact Nat.one_pos) rfl
  exact ⟨q0, g1 _ rfl, g2⟩
theorem am_wrL (J : am_J D cl tc A s n0 ad0 ad h H locs) {k n : Nat} {f : Nat → Int64} (hk : h[k]? = some (.inr (.inr (.inr (n, f))))) (f' : Nat → Int64) : ∃ q0 : Nat, (am_ws tc ad 0 h)[q0]? = some (ad.1 k none, .inl (tc 3, n, .inr (.inl f))) ∧ ∀ (H1 : Heap) (locs1 : List Loc), va_P D cl ((am_ws tc ad 0 h).set q0 (ad.1 k none, .inl (tc 3, n, .inr (.inl f')))) H1 → va_D A ((am_ws tc ad 0 h).set q0 (ad.1 k none, .inl (tc 3, n, .inr (.inl f')))) → va_S A s.heap H1 locs1 → am_J D cl tc A s n0 ad0 ad (h.set k (.inr (.inr (.inr (n, f'))))) H1 locs1 := by
  obtain ⟨q0, g1, g2⟩ := am_wr J hk (.inr (.inr (.inr (n, f')))) 0 (ad.1 k none, .inl (tc 3, n, .inr (.inl f'))) (by show 0 < 1; exact Nat.one_pos) rfl
  exact ⟨q0, g1 _ rfl, g2⟩
theorem am_wrO (J : am_J D cl tc A s n0 ad0 ad h H locs) {k ci : Nat} {fs : List am_V} (hk : h[k]? = some (.inr (.inr (.inl (ci, fs))))) (fs' : List am_V) : ∃ q0 : Nat, (am_ws tc ad 0 h)[q0]? = some (ad.1 k none, .inr (ci, fs.map (am_t ad))) ∧ ∀ (H1 : Heap) (locs1 : List Loc), va_P D cl ((am_ws tc ad 0 h).set q0 (ad.1 k none, .inr (ci, fs'.map (am_t ad)))) H1 → va_D A ((am_ws tc ad 0 h).set q0 (ad.1 k none, .inr (ci, fs'.map (am_t ad)))) → va_S A s.heap H1 locs1 → am_J D cl tc A s n0 ad0 ad (h.set k (.inr (.inr (.inl (ci, fs'))))) H1 locs1 := by
  obtain ⟨q0, g1, g2⟩ := am_wr J hk (.inr (.inr (.inl (ci, fs')))) 0 (ad.1 k none, .inr (ci, fs'.map (am_t ad))) (by show 0 < 1; exact Nat.one_pos) rfl
  exact ⟨q0, g1 _ rfl, g2⟩
end AMJ
/-- the judgement: from here, with these locals, stack, heap and room left, the machine comes to Q -/
def am_W (p : Program) (l : Launch) (e : Env) (R : Room) (s : State) (m : MethodId) (args : Array Value) (below : List Frame) (meth : Method) (c : Code) (Q : State → Prop) (D : va_G) (cl : List vw_C) (tc : Nat → ClassId) (A : Nat → Prop) (nL n0 : Nat) (ad0 : am_A) (pc : Nat) (lv : am_Lv) (st : List am_V) (h : am_H) (b : Nat × Nat) : Prop :=
  ∀ (ad : am_A) (H : Heap) (locs : List Loc) (cells slots : Nat) (ls : Array Slot), am_J D cl tc A s n0 ad0 ad h H locs → lv_has ls nL (lv.map fun q => (q.1, am_t ad q.2)) → cells + b.1 ≤ R.cells → slots + b.2 ≤ R.slots → W p l e R s m args below meth c H locs cells slots Q (F0 m pc ls (st.map (am_t ad)))
def am_G (p : Program) (m : MethodId) (c : Code) (cc : ByteArray) (nL : Nat) (s : State) (args : Array Value) (Ts : List Cond) (own : String) (D : va_G) (cl : List vw_C) (tc : Nat → ClassId) (A : Nat → Prop) (rs : Nat → Option (Nat × (Nat → Int32))) (ad0 : am_A) : Prop :=
  CallFix p m c cc nL s args Ts own ∧ va_K D cl (am_tys tc) s ∧ (∀ q, s.heap.size ≤ q → A q) ∧ am_ro rs ad0.2 A s s.heap
/-! the run, with what comes next as an argument -/
/-- locals are kept by rising numbers -/
def am_ins (i : Nat) (v : am_V) : am_Lv → am_Lv
  | [] => [(i, v)]
  | (j, w) :: r => if i < j then (i, v) :: (j, w) :: r else (j, w) :: am_ins i v r
theorem am_ins_mem {i : Nat} {v : am_V} : ∀ {lv : am_Lv} {q : Nat × am_V}, q ∈ am_ins i v lv → q = (i, v) ∨ q ∈ lv
  | [], q, h => Or.inl (by simpa [am_ins] using h)
  | (j, w) :: r, q, h => by
    unfold am_ins at h
    split at h
    · exact List.mem_cons.mp h
    · rcases List.mem_cons.mp h with h | h
      · exact Or.inr (h ▸ List.mem_cons_self)
      · rcases am_ins_mem h with h | h
        · exact Or.inl h
        · exact Or.inr (List.mem_cons_of_mem _ h)
def am_sv (lv : am_Lv) (i : Nat) (v : am_V) : am_Lv := am_ins i v (lv.filter (fun q => !(q.1 == i) && !(q.1 + 1 == i && am_cat q.2 == 2)))
/-- at some places (loops' heads) only some locals are kept -/
abbrev am_Kp : Type := List (Nat × List Nat)
def am_kp (kp : am_Kp) (pc : Nat) (lv : am_Lv) : am_Lv := match kp.lookup pc with
  | some ks => lv.filter (fun q => ks.contains q.1)
  | none => lv
theorem am_kp_sub {kp : am_Kp} {pc : Nat} {lv : am_Lv} : ∀ q ∈ am_kp kp pc lv, q ∈ lv := by
  intro q hq
  unfold am_kp at hq
  split at hq
  · exact (List.mem_filter.mp hq).1
  · exact hq
abbrev am_K1 : Type := am_Lv → List am_V → Option am_O
abbrev am_K2 : Type := List am_V → am_H → Option am_O
abbrev am_K3 : Type := List am_V → am_H → Nat × Nat → Option am_O
def am_li (lv : am_Lv) (k : Nat) (st : List am_V) (K : am_K1) : Option am_O := match lv.lookup k with
  | some (.inl (.int x)) => K lv (.inl (.int x) :: st)
  | _ => none
def am_la (lv : am_Lv) (k : Nat) (st : List am_V) (K : am_K1) : Option am_O := match lv.lookup k with
  | some (.inl (.ref x)) => K lv (.inl (.ref x) :: st)
  | some (.inl (.retAddr x)) => K lv (.inl (.retAddr x) :: st)
  | some (.inr x) => K lv (.inr x :: st)
  | _ => none
def am_si (nL : Nat) (lv : am_Lv) (k : Nat) (st : List am_V) (K : am_K1) : Option am_O := match st with
  | .inl (.int x) :: r => if k < nL then K (am_sv lv k (.inl (.int x))) r else none
  | _ => none
def am_sa (nL : Nat) (lv : am_Lv) (k : Nat) (st : List am_V) (K : am_K1) : Option am_O := match st with
  | .inl (.ref x) :: r => if k < nL then K (am_sv lv k (.inl (.ref x))) r else none
  | .inl (.retAddr x) :: r => if k < nL then K (am_sv lv k (.inl (.retAddr x))) r else none
  | .inr x :: r => if k < nL then K (am_sv lv k (.inr x)) r else none
  | _ => none
def am_2 (lv : am_Lv) (st : List am_V) (g : Int32 → Int32 → Int32) (K : am_K1) : Option am_O := match st with
  | .inl (.int y) :: .inl (.int x) :: r => K lv (.inl (.int (g x y)) :: r)
  | _ => none
def am_2z (lv : am_Lv) (st : List am_V) (g : Int32 → Int32 → Int32) (K : am_K1) : Option am_O := match st with
  | .inl (.int y) :: .inl (.int x) :: r => if y = 0 then none else K lv (.inl (.int (g x y)) :: r)
  | _ => none
def am_ic (nL : Nat) (lv : am_Lv) (k : Nat) (z : Int) (st : List am_V) (K : am_K1) : Option am_O := match lv.lookup k with
  | some (.inl (.int x)) => if k < nL then K (am_sv lv k (.inl (.int (x + Int32.ofInt z)))) st else none
  | _ => none
def am_du (lv : am_Lv) (st : List am_V) (K : am_K1) : Option am_O := match st with
  | v :: r => if am_cat v = 1 then K lv (v :: v :: r) else none
  | _ => none
def am_d2 (lv : am_Lv) (st : List am_V) (K : am_K1) : Option am_O := match st with
  | v :: w :: r => if am_cat v = 1 then (if am_cat w = 1 then K lv (v :: w :: v :: w :: r) else none) else none
  | _ => none
def am_dx (lv : am_Lv) (st : List am_V) (K : am_K1) : Option am_O := match st with
  | v :: w :: r => if am_cat v = 1 then (if am_cat w = 1 then K lv (v :: w :: v :: r) else none) else none
  | _ => none
def am_po (lv : am_Lv) (st : List am_V) (K : am_K1) : Option am_O := match st with
  | v :: r => if am_cat v = 1 then K lv r else none
  | _ => none
def am_il (lv : am_Lv) (st : List am_V) (K : am_K1) : Option am_O := match st with
  | .inl (.int x) :: r => K lv (.inl (.long x.toInt64) :: r)
  | _ => none
def am_lc (lv : am_Lv) (st : List am_V) (K : am_K1) : Option am_O := match st with
  | .inl (.long y) :: .inl (.long x) :: r => K lv (.inl (.int (lg_cmp x y)) :: r)
  | _ => none
def am_s1 (nL : Nat) (i : Instr) (n : Nat) (lv : am_Lv) (st : List am_V) (K : am_K1) : Option am_O := match i with
  | .iconst z => if n = 1 then K lv (.inl (.int (Int32.ofInt z)) :: st) else none
  | .bipush z => if n = 2 then K lv (.inl (.int (Int8.ofInt z).toInt32) :: st) else none
  | .sipush z => if n = 3 then K lv (.inl (.int (Int16.ofInt z).toInt32) :: st) else none
  | .iload k => if n = 2 then am_li lv k st K else none
  | .iload_n k => if n = 1 then am_li lv k.val st K else none
  | .aload k => if n = 2 then am_la lv k st K else none
  | .aload_n k => if n = 1 then am_la lv k.val st K else none
  | .istore k => if n = 2 then am_si nL lv k st K else none
  | .istore_n k => if n = 1 then am_si nL lv k.val st K else none
  | .astore k => if n = 2 then am_sa nL lv k st K else none
  | .astore_n k => if n = 1 then am_sa nL lv k.val st K else none
  | .iinc k z => if n = 3 then am_ic nL lv k z st K else none
  | .iadd => if n = 1 then am_2 lv st (fun x y => x + y) K else none
  | .isub => if n = 1 then am_2 lv st (fun x y => x - y) K else none
  | .imul => if n = 1 then am_2 lv st (fun x y => x * y) K else none
  | .iand => if n = 1 then am_2 lv st (fun x y => x &&& y) K else none
  | .ior => if n = 1 then am_2 lv st (fun x y => x ||| y) K else none
  | .ixor => if n = 1 then am_2 lv st (fun x y => x ^^^ y) K else none
  | .idiv => if n = 1 then am_2z lv st (fun x y => x / y) K else none
  | .irem => if n = 1 then am_2z lv st (fun x y => x - x / y * y) K else none
  | .dup => if n = 1 then am_du lv st K else none
  | .dup2 => if n = 1 then am_d2 lv st K else none
  | .dup_x1 => if n = 1 then am_dx lv st K else none
  | .pop => if n = 1 then am_po lv st K else none
  | .i2l => if n = 1 then am_il lv st K else none
  | .lcmp => if n = 1 then am_lc lv st K else none
  | _ => none
/-! arrays -/
def am_in (i : Int32) (n : Nat) : Bool := !(decide (i < 0) || decide (n ≤ i.toNatClampNeg))
def am_nar (t : Nat) (x : Int32) : Int32 := if t = 1 then vp_nar .boolean x else x
def am_ld (t : Nat) (rs : Nat → Option (Nat × (Nat → Int32))) (st : List am_V) (h : am_H) (K : am_K2) : Option am_O := match st with
  | .inl (.int i) :: .inl (.ref k) :: r => (match h[k]? with
    | some (.inl (t', n, f)) => if t' = t then (bif am_in i n then K (.inl (.int (f i.toNatClampNeg)) :: r) h else none) else none
    | _ => none)
  | .inl (.int i) :: .inr (k, j) :: r => (match h[k]? with
    | some (.inr (.inl (n, w, M))) => if t = 0 then (bif decide (j < n) && am_in i w then K (.inl (.int (M j i.toNatClampNeg)) :: r) h else none) else none
    | _ => none)
  | .inl (.int i) :: .inl (.retAddr j) :: r => (match rs j with
    | some (n, f) => if t = 0 then (bif am_in i n then K (.inl (.int (f i.toNatClampNeg)) :: r) h else none) else none
    | _ => none)
  | _ => none
def am_sr (t : Nat) (st : List am_V) (h : am_H) (K : am_K2) : Option am_O := match st with
  | .inl (.int x) :: .inl (.int i) :: .inl (.ref k) :: r => (match h[k]? with
    | some (.inl (t', n, f)) => if t' = t then (bif am_in i n then K r (h.set k (.inl (t', n, upd f i.toNatClampNeg (am_nar t' x)))) else none) else none
    | _ => none)
  | .inl (.int x) :: .inl (.int i) :: .inr (k, j) :: r => (match h[k]? with
    | some (.inr (.inl (n, w, M))) => if t = 0 then (bif decide (j < n) && am_in i w then K r (h.set k (.inr (.inl (n, w, va_up M j (upd (M j) i.toNatClampNeg x))))) else none) else none
    | _ => none)
  | _ => none
def am_al (rs : Nat → Option (Nat × (Nat → Int32))) (st : List am_V) (h : am_H) (K : am_K2) : Option am_O := match st with
  | .inl (.ref k) :: r => (match h[k]? with
    | some (.inl (t, n, _)) => if t < 2 then K (.inl (.int (Int32.ofNat n)) :: r) h else none
    | some (.inr (.inl (n, _))) => K (.inl (.int (Int32.ofNat n)) :: r) h
    | _ => none)
  | .inr (k, j) :: r => (match h[k]? with
    | some (.inr (.inl (n, w, _))) => bif decide (j < n) then K (.inl (.int (Int32.ofNat w)) :: r) h else none
    | _ => none)
  | .inl (.retAddr j) :: r => (match rs j with
    | some (n, _) => K (.inl (.int (Int32.ofNat n)) :: r) h
    | _ => none)
  | _ => none
def am_aa (st : List am_V) (h : am_H) (K : am_K2) : Option am_O := match st with
  | .inl (.int i) :: .inl (.ref k) :: r => (match h[k]? with
    | some (.inr (.inl (n, _))) => bif am_in i n then K (.inr (k, i.toNatClampNeg) :: r) h else none
    | _ => none)
  | _ => none
def am_ll (st : List am_V) (h : am_H) (K : am_K2) : Option am_O := match st with
  | .inl (.int i) :: .inl (.ref k) :: r => (match h[k]? with
    | some (.inr (.inr (.inr (n, f)))) => bif am_in i n then K (.inl (.long (f i.toNatClampNeg)) :: r) h else none
    | _ => none)
  | _ => none
def am_sl (st : List am_V) (h : am_H) (K : am_K2) : Option am_O := match st with
  | .inl (.long x) :: .inl (.int i) :: .inl (.ref k) :: r => (match h[k]? with
    | some (.inr (.inr (.inr (n, f)))) => bif am_in i n then K r (h.set k (.inr (.inr (.inr (n, vp_updL f i.toNatClampNeg x))))) else none
    | _ => none)
  | _ => none
def am_s2 (rs : Nat → Option (Nat × (Nat → Int32))) (i : Instr) (n : Nat) (st : List am_V) (h : am_H) (K : am_K2) : Option am_O := match i with
  | .iaload => if n = 1 then am_ld 0 rs st h K else none
  | .baload => if n = 1 then am_ld 1 rs st h K else none
  | .iastore => if n = 1 then am_sr 0 st h K else none
  | .bastore => if n = 1 then am_sr 1 st h K else none
  | .arraylength => if n = 1 then am_al rs st h K else none
  | .aaload => if n = 1 then am_aa st h K else none
  | .laload => if n = 1 then am_ll st h K else none
  | .lastore => if n = 1 then am_sl st h K else none
  | _ => none
/-! jumps -/
def am_cmp (k : Jvm.ClassFile.Cond) (x y : Int32) : Bool := match k with
  | .eq => decide (x = y)
  | .ne => !decide (x = y)
  | .lt => decide (x < y)
  | .ge => decide (y ≤ x)
  | .gt => decide (y < x)
  | .le => decide (x ≤ y)
def am_tg (pc : Nat) (off : Int) (K : Nat → Option am_O) : Option am_O := match (pc : Int) + off with
  | .ofNat t => K t
  | .negSucc _ => none
def am_tsl (x : Int32) (K : Int → Option am_O) (d : Int) : Int → List Int → Option am_O
  | _, [] => K d
  | v, o :: os => bif decide (x.toInt = v) then K o else am_tsl x K d (v + 1) os
def am_lsl (x : Int32) (K : Int → Option am_O) (d : Int) : List (Int × Int) → Option am_O
  | [] => K d
  | (v, o) :: os => bif decide (v = x.toInt) then K o else am_lsl x K d os
def am_br (pc : Nat) (i : Instr) (n : Nat) (st : List am_V) (K : List am_V → Nat → Option am_O) (N : List am_V → Option am_O) : Option am_O := match i with
  | .goto off => if n = 3 then am_tg pc off (fun t => K st t) else none
  | .if_icmp k off => if n = 3 then (match st with
    | .inl (.int y) :: .inl (.int x) :: r => am_tg pc off (fun t => bif am_cmp k x y then K r t else N r)
    | _ => none) else none
  | .ifCond k off => if n = 3 then (match st with
    | .inl (.int x) :: r => am_tg pc off (fun t => bif am_cmp k x 0 then K r t else N r)
    | _ => none) else none
  | .tableswitch d lo hi offs => (match st with
    | .inl (.int x) :: r => if hi = lo + offs.toList.length - 1 then am_tsl x (fun o => am_tg pc o (fun t => K r t)) d lo offs.toList else none
    | _ => none)
  | .lookupswitch d ps => (match st with
    | .inl (.int x) :: r => if (ps.toList.zip (ps.toList.drop 1)).all (fun (a, next) => a.1 < next.1) = true then am_lsl x (fun o => am_tg pc o (fun t => K r t)) d ps.toList else none
    | _ => none)
  | _ => none
/-! returns -/
def am_rt (rt : Option FieldType) (x : Int32) : Bool := match rt with
  | some .int => true
  | some .boolean => decide (x = 0) || decide (x = 1)
  | _ => false
def am_re (rt : Option FieldType) (i : Instr) (n : Nat) (st : List am_V) (h : am_H) : Option am_O := match i with
  | .ireturn => if n = 1 then (match st with
    | [.inl (.int x)] => bif am_rt rt x then some (.inl (some (.inl (.int x))), h) else none
    | _ => none) else none
  | .return_ => if n = 1 then (match st with
    | [] => if rt = none then some (.inl none, h) else none
    | _ => none) else none
  | _ => none
/-! what the pool's entries do -/
abbrev am_KX : Type := Nat → am_H → Nat × Nat → Option am_O
abbrev am_F : Type := am_I → am_Lv → List am_V → am_H → Nat × Nat → am_K3 → am_KX → Option am_O
abbrev am_X : Type := List ((Nat × Nat) × am_F)
def am_key (i : Instr) : Nat × Nat := match i with
  | .getfield k => (0, k)
  | .putfield k => (1, k)
  | .invokestatic k => (2, k)
  | .invokevirtual k => (3, k)
  | .invokespecial k => (4, k)
  | .new k => (5, k)
  | .getstatic k => (6, k)
  | .multianewarray k _ => (7, k)
  | .newarray .int => (8, 0)
  | .newarray .boolean => (8, 1)
  | .newarray .long => (8, 2)
  | _ => (99, 0)
/-- 0: neither heap nor jump, 1: an array, 2: a jump, 3: an end, 4: the pool's -/
def am_cls (i : Instr) : Nat := match i with
  | .iaload => 1
  | .baload => 1
  | .iastore => 1
  | .bastore => 1
  | .arraylength => 1
  | .aaload => 1
  | .laload => 1
  | .lastore => 1
  | .goto _ => 2
  | .if_icmp _ _ => 2
  | .ifCond _ _ => 2
  | .tableswitch _ _ _ _ => 2
  | .lookupswitch _ _ => 2
  | .ireturn => 3
  | .return_ => 3
  | .getfield _ => 4
  | .putfield _ => 4
  | .invokestatic _ => 4
  | .invokevirtual _ => 4
  | .invokespecial _ => 4
  | .new _ => 4
  | .getstatic _ => 4
  | .multianewarray _ _ => 4
  | .newarray _ => 4
  | _ => 0
abbrev am_Kj : Type := Nat → am_Lv → List am_V → am_H → Nat × Nat → Option am_O
def am_from (t : Nat) (is : am_I) : am_I := is.dropWhile (fun x => !(x.1 == t))
/-- the handler of an exception: from, to, its place, the class's entry, its number -/
abbrev am_Hs : Type := List (Nat × Nat × Nat × Nat × Nat)
/-- the exceptions' numbers are 0 .. 4; what is above stands for 4 -/
def am_x4 (x : Nat) : Nat := if x < 4 then x else 4
def am_fh (hs : am_Hs) (pc x : Nat) : Option Nat := match hs with
  | [] => none
  | (a, z, t, _, y) :: r => if a ≤ pc then (if pc < z then (if am_x4 x = y then some t else am_fh r pc x) else am_fh r pc x) else am_fh r pc x
def am_rm (lv : am_Lv) (k : Nat) : am_Lv := lv.filter (fun q => !(q.1 == k) && !(q.1 + 1 == k && am_cat q.2 == 2))
def am_go (X : am_X) (nL : Nat) (rt : Option FieldType) (rs : Nat → Option (Nat × (Nat → Int32))) (hs : am_Hs) (kp : am_Kp) (jmp : am_Kj) : Nat → am_I → am_Lv → List am_V → am_H → Nat × Nat → Option am_O
  | 0, _, _, _, _, _ => none
  | _ + 1, [], _, _, _, _ => none
  | f + 1, (pc, i, n) :: is, lv, st, h, b => match am_cls i with
    | 0 => am_s1 nL i n (am_kp kp pc lv) st (fun lv' st' => am_go X nL rt rs hs kp jmp f is lv' st' h b)
    | 1 => am_s2 rs i n st h (fun st' h' => am_go X nL rt rs hs kp jmp f is (am_kp kp pc lv) st' h' b)
    | 2 => am_br pc i n st (fun st' t => if t ≤ pc then jmp t (am_kp kp t lv) st' h b else am_go X nL rt rs hs kp jmp f (am_from t is) lv st' h b) (fun st' => am_go X nL rt rs hs kp jmp f is lv st' h b)
    | 3 => am_re rt i n st h
    | _ => match X.lookup (am_key i) with
      | some φ => φ ((pc, i, n) :: is) lv st h b (fun st' h' b' => am_go X nL rt rs hs kp jmp f is lv st' h' b') (fun x h' b' => match am_fh hs pc x with
        | none => some (.inr x, h')
        | some t => (match am_from t is with
          | (_, .astore k, n9) :: is' => if n9 = 2 then (if k < nL then am_go X nL rt rs hs kp jmp f is' (am_rm lv k) [] h' b' else none) else none
          | (_, .astore_n k, n9) :: is' => if n9 = 1 then (if k.val < nL then am_go X nL rt rs hs kp jmp f is' (am_rm lv k.val) [] h' b' else none) else none
          | _ => none))
      | none => none
def am_lp (T : am_I) (X : am_X) (nL : Nat) (rt : Option FieldType) (rs : Nat → Option (Nat × (Nat → Int32))) (hs : am_Hs) (kp : am_Kp) : Nat → am_Kj
  | 0 => fun _ _ _ _ _ => none
  | n + 1 => fun pc lv st h b => am_go X nL rt rs hs kp (am_lp T X nL rt rs hs kp n) 1000 (am_from pc T) lv st h b
def am_args : Nat → List am_V → am_Lv
  | _, [] => []
  | i, v :: vs => (i, v) :: am_args (if am_cat v = 2 then i + 2 else i + 1) vs
