/-! calls: a callee's contract is the run of its own code -/
def am_clV (h : am_H) : am_V → Bool
  | .inl (.ref k) => (h[k]?).isSome
  | .inr q => (h[q.1]?).isSome
  | _ => true
theorem am_some_lt {h : am_H} {k : Nat} (hs : (h[k]?).isSome = true) : k < h.length := by
  rw [Option.isSome_iff_exists] at hs
  obtain ⟨x, hx⟩ := hs
  exact (List.getElem?_eq_some_iff.mp hx).1
theorem am_cl_t {h : am_H} {ad ad' : am_A} {v : am_V} (hc : am_clV h v = true) (h1 : ∀ k, k < h.length → ad'.1 k = ad.1 k) (h2 : ad'.2 = ad.2) : am_t ad' v = am_t ad v := by
  cases v with
  | inl v =>
    cases v with
    | ref k =>
      show Value.ref (ad'.1 k none) = Value.ref (ad.1 k none)
      rw [h1 k (am_some_lt hc)]
    | retAddr j =>
      show Value.ref (ad'.2 j) = Value.ref (ad.2 j)
      rw [h2]
    | _ => rfl
  | inr q =>
    show Value.ref (ad'.1 q.1 (some q.2)) = Value.ref (ad.1 q.1 (some q.2))
    rw [h1 q.1 (am_some_lt hc)]
theorem am_cl_L {h : am_H} {ad ad' : am_A} {vs : List am_V} (hc : vs.all (am_clV h) = true) (h1 : ∀ k, k < h.length → ad'.1 k = ad.1 k) (h2 : ad'.2 = ad.2) : vs.map (am_t ad') = vs.map (am_t ad) := by
  apply List.map_congr_left
  intro v hv
  exact am_cl_t (List.all_eq_true.mp hc v hv) h1 h2
theorem am_cl_lv {h : am_H} {ad ad' : am_A} {lv : am_Lv} (hc : lv.all (fun q => am_clV h q.2) = true) (h1 : ∀ k, k < h.length → ad'.1 k = ad.1 k) (h2 : ad'.2 = ad.2) : (lv.map fun q => (q.1, am_t ad' q.2)) = lv.map fun q => (q.1, am_t ad q.2) := by
  apply List.map_congr_left
  intro v hv
  rw [am_cl_t (List.all_eq_true.mp hc v hv) h1 h2]
/-- words that go with the tables, though not by 'goodWord' -/
def am_wk (w : Cond) : Bool := match w with
  | .castable _ _ => true
  | .fieldLinkNest _ _ _ _ _ _ => true
  | .declares _ => true
  | _ => false
theorem am_cast_moved {a b : String} {u U : State} (hvm : u.vm.Alike U.vm) (h : va_Nw (.castable a b) u) : va_Nw (.castable a b) U := by
  obtain ⟨c3, c4, hc3, hc4, hasg⟩ := Cond.castable_spec h
  have h1 : U.vm.findClass a = some c3 := by rw [hvm.findClass]; exact hc3
  have h2 : U.vm.findClass b = some c4 := by rw [hvm.findClass]; exact hc4
  have h3 : U.vm.assignable c3 c4 = true := by rw [hvm.assignable]; exact hasg
  simp [va_Nw, Cond.before, Cond.holds, Cond.value, h1, h2, h3]
theorem am_wk_warm {w : Cond} (hw : am_wk w = true) {s U : State} (hW : s.WarmedH U.vm) (h : va_Nw w s) : va_Nw w U := by
  unfold am_wk at hw
  split at hw
  · exact am_cast_moved hW.alike h
  · exact va_Nw.warmF hW h
  · exact va_Nw.warmD hW h
  · cases hw
theorem am_wk_same {w : Cond} (hw : am_wk w = true) {s U : State} (hW : s.vm = U.vm) (h : va_Nw w s) : va_Nw w U := by
  unfold am_wk at hw
  split at hw
  · exact va_Nw.same rfl hW h
  · exact va_Nw.same rfl hW h
  · exact va_Nw.same rfl hW h
  · cases hw
theorem am_wk_tab {w : Cond} (hw : am_wk w = true) : w.onTables = true := by
  unfold am_wk at hw
  split at hw
  · rfl
  · rfl
  · rfl
  · cases hw
abbrev am_Zt : Type := List (String × String × String × Nat) × List Cond
/-- statics: the constant arrays' own fields, and Throwable's two; the exceptions' classes are apart; words that go along -/
def am_zs (zs : am_Zt) (ra : Nat → Nat) (A : Nat → Prop) (U : State) (H : Heap) : Prop := (∀ x y, x < 5 → y < 5 → x ≠ y → va_Nc (am_xn x) (am_xn y) U) ∧ va_AOA .int U ∧ (∀ w ∈ zs.2, am_wk w = true ∧ va_Nw w U) ∧ (∀ q ∈ zs.1, va_Z q.1 q.2.1 q.2.2.1 (.ref (ra q.2.2.2)) A U H) ∧ vx_Zq Bundle.tN "UNASSIGNED_STACK" Bundle.steD A U H ∧ vx_Zq Bundle.tN "SUPPRESSED_SENTINEL" Bundle.listD A U H
theorem am_zs.go {zs : am_Zt} {ra : Nat → Nat} {A B : Nat → Prop} {u U : State} {H H1 : Heap} (h : am_zs zs ra A u H) (hW : u.WarmedH U.vm) (hq : ∀ a : Nat, a < H.size → ¬ A a → H1[a]? = H[a]?) (hAB : ∀ q, B q → A q) : am_zs zs ra B U H1 :=
  have hvm := hW.alike
  ⟨fun x y h1 h2 h3 => (h.1 x y h1 h2 h3).moved hvm, over_moved (a := #[]) (a' := #[]) hvm h.2.1, fun w hw => ⟨(h.2.2.1 w hw).1, am_wk_warm (h.2.2.1 w hw).1 hW (h.2.2.1 w hw).2⟩, fun q hq1 => (((h.2.2.2.1 q hq1).moved hvm).kept hq).narrow hAB, ((h.2.2.2.2.1.moved hvm).kept hq).narrow hAB, ((h.2.2.2.2.2.moved hvm).kept hq).narrow hAB⟩
theorem am_zs.same {zs : am_Zt} {ra : Nat → Nat} {A : Nat → Prop} {u U : State} {H : Heap} (h : am_zs zs ra A u H) (hvm0 : u.vm = U.vm) (hvm : u.vm.Alike U.vm) : am_zs zs ra A U H :=
  ⟨fun x y h1 h2 h3 => (h.1 x y h1 h2 h3).moved hvm, over_moved (a := #[]) (a' := #[]) hvm h.2.1, fun w hw => ⟨(h.2.2.1 w hw).1, am_wk_same (h.2.2.1 w hw).1 hvm0 (h.2.2.1 w hw).2⟩, fun q hq1 => (h.2.2.2.1 q hq1).moved hvm, h.2.2.2.2.1.moved hvm, h.2.2.2.2.2.moved hvm⟩
theorem am_ro.go {rs : Nat → Option (Nat × (Nat → Int32))} {ra : Nat → Nat} {A B : Nat → Prop} {u U : State} {H H1 : Heap} (h : am_ro rs ra A u H) (hvm : u.vm.Alike U.vm) (hq : ∀ a : Nat, a < H.size → ¬ A a → H1[a]? = H[a]?) (hAB : ∀ q, B q → A q) : am_ro rs ra B U H1 :=
  fun j n f hj => (((h j n f hj).moved hvm).kept hq).narrow hAB
/-- a contract's start -/
def am_Pc (D : va_G) (cl : List vw_C) (tc : Nat → ClassId) (rs : Nat → Option (Nat × (Nat → Int32))) (zs : am_Zt) (ad : am_A) (as : List am_V) (h : am_H) (sz : Nat) : Array Value → State → Prop :=
  va_Pc (as.map (am_t ad)) (fun U => U.heap.size = sz ∧ va_P D cl (am_ws tc ad 0 h) U.heap ∧ va_K D cl (am_tys tc) U ∧ va_D (fun _ => True) (am_ws tc ad 0 h) ∧ am_ro rs ad.2 (va_A (am_ws tc ad 0 h) sz) U U.heap ∧ am_zs zs ad.2 (va_A (am_ws tc ad 0 h) sz) U U.heap)
def am_M (cl : List vw_C) (rs : Nat → Option (Nat × (Nat → Int32))) (zs : am_Zt) (l : Launch) (y : MethodName) (ws : List Cond) (rm : Room) (F : List am_V → am_H → Option am_O) : Prop :=
  ∀ (D : va_G) (tc : Nat → ClassId) (ad : am_A) (as : List am_V) (h : am_H) (sz : Nat) (out : am_O), F as h = some out → vx_Met l y ws rm (am_Pc D cl tc rs zs ad as h sz) (am_Qc D cl tc (va_A (am_ws tc ad 0 h) sz) h.length ad out) (am_XC D cl tc (va_A (am_ws tc ad 0 h) sz) h.length ad out) rm.cells rm.slots (va_A (am_ws tc ad 0 h) sz)
theorem am_blind {D : va_G} {cl : List vw_C} {tc : Nat → ClassId} {rs : Nat → Option (Nat × (Nat → Int32))} {zs : am_Zt} {ad : am_A} {as : List am_V} {h : am_H} {sz : Nat} : FrameBlind (am_Pc D cl tc rs zs ad as h sz) := by
  intro a U g mk q
  obtain ⟨q0, q1, q2, q3, q4, q5, q6⟩ := q
  have hA : U.vm.Alike (U.calling g mk a).vm := Vm.Alike.refl U.vm
  exact ⟨q0, q1, q2, va_K.moved hA q3, q4, q5.go hA (fun _ _ _ => rfl) (fun _ h => h), q6.same rfl hA⟩
/-- what a method's body stands on -/
def am_Cx (p : Program) (l : Launch) (R : Room) (s : State) (m : MethodId) (args : Array Value) (meth : Method) (c : Code) (cc : ByteArray) (nL : Nat) (Ts : List Cond) (own : String) (D : va_G) (cl : List vw_C) (tc : Nat → ClassId) (A : Nat → Prop) (rs : Nat → Option (Nat × (Nat → Int32))) (zs : am_Zt) (hs : am_Hs) (ad0 : am_A) : Prop :=
  am_G p m c cc nL s args Ts own D cl tc A rs ad0 ∧ am_zs zs ad0.2 A s s.heap ∧ meth.locks = false ∧ c.exceptionTable.toList = tableOf (am_tb hs) ∧ l.stackTraces = false
section AMC
variable {p : Program} {l : Launch} {e : Env} {R : Room} {s : State} {m : MethodId} {args : Array Value} {below : List Frame} {meth : Method} {c : Code} {D : va_G} {cl : List vw_C} {tc : Nat → ClassId} {A : Nat → Prop} {nL n0 : Nat} {ad0 : am_A} {cc : ByteArray} {own : String} {Ts : List Cond} {rs : Nat → Option (Nat × (Nat → Int32))} {zs : am_Zt} {hs : am_Hs}
theorem am_J.sub {ad : am_A} {h : am_H} {H : Heap} {locs : List Loc} (hA : ∀ q, s.heap.size ≤ q → A q) (J : am_J D cl tc A s n0 ad0 ad h H locs) : ∀ q, va_A (am_ws tc ad 0 h) H.size q → A q := by
  obtain ⟨-, -, -, -, hD, hS⟩ := J
  intro q hq
  rcases hq with ⟨k, e, hk⟩ | hq
  · exact hD.2 k _ hk
  · exact hA q (Nat.le_trans hS.1 hq)
theorem am_pre (C : am_Cx p l R s m args meth c cc nL Ts own D cl tc A rs zs hs ad0) {ad : am_A} {h : am_H} {H : Heap} {locs : List Loc} (J : am_J D cl tc A s n0 ad0 ad h H locs) (as : List am_V) {U : State} (hU : U.heap = H) (hW : s.WarmedH U.vm) : am_Pc D cl tc rs zs ad as h H.size (as.map (am_t ad)).toArray U := by
  obtain ⟨⟨_, hK, hA, hro⟩, hz, -⟩ := C
  have hsub := am_J.sub hA J
  obtain ⟨j1, j2, j3, hP, hD, hS⟩ := J
  subst hU
  rw [← j3] at hro hz
  exact ⟨rfl, rfl, hP, va_K.moved hW.alike hK, hD.weaken (fun _ _ _ _ => trivial), hro.go hW.alike hS.2.1 hsub, hz.go hW hS.2.1 hsub⟩
/-- the receiver is an object of that class -/
def am_rcv (rk : Option Nat) (as : List am_V) (h : am_H) : Bool := match rk with
  | none => true
  | some ci => match as with
    | .inl (.ref k) :: _ => (match h[k]? with
      | some (.inr (.inr (.inl (ci', _)))) => ci' == ci
      | _ => false)
    | _ => false
/-- a call that stands: what the callee's run says comes back -/
def am_rn (p : Program) (l : Launch) (e : Env) (R : Room) (s : State) (m : MethodId) (args : Array Value) (below : List Frame) (meth : Method) (c : Code) (D : va_G) (cl : List vw_C) (tc : Nat → ClassId) (A : Nat → Prop) (nL n0 : Nat) (ad0 : am_A) (cc : ByteArray) (key : Nat × Nat) (rk : Option Nat) (n : Nat) (F : List am_V → am_H → Option am_O) (mc ms : Nat) : Prop :=
  ∀ (pc : Nat) (i : Instr) (ad : am_A) (h : am_H) (H : Heap) (locs : List Loc) (cells slots : Nat) (ls : Array Slot) (as rest : List am_V) (o1 : am_O), am_key i = key → decode cc pc = .ok (i, 3) → am_J D cl tc A s n0 ad0 ad h H locs → ls.size = nL → am_rcv rk as h = true → as.length = n → ((rest.map (am_t ad)).map fun v => v.category).sum ≤ 8 → F as h = some o1 → cells + mc ≤ R.cells → slots + ms ≤ R.slots →
    vx_Run p l e R s m args below meth c H locs cells slots mc ms (F0 m pc ls ((as.reverse ++ rest).map (am_t ad))) (rest.map (am_t ad)) (am_Qc D cl tc (va_A (am_ws tc ad 0 h) H.size) h.length ad o1 (as.map (am_t ad)).toArray) (am_XC D cl tc (va_A (am_ws tc ad 0 h) H.size) h.length ad o1) (va_A (am_ws tc ad 0 h) H.size)
theorem am_cont (C : am_Cx p l R s m args meth c cc nL Ts own D cl tc A rs zs hs ad0) {ad : am_A} {h : am_H} {H : Heap} {locs : List Loc} (J : am_J D cl tc A s n0 ad0 ad h H locs) {lv : am_Lv} {ls : Array Slot} (hl : lv_has ls nL (lv.map fun q => (q.1, am_t ad q.2))) {b : Nat × Nat} {cells slots mc ms pc : Nat} (hc : cells + b.1 ≤ R.cells) (hs : slots + b.2 ≤ R.slots) (h1 : mc ≤ b.1) (h2 : ms ≤ b.2) {rest : List am_V} {st0 : List Value} (c1 : lv.all (fun q => am_clV h q.2) = true) (c2 : rest.all (am_clV h) = true) {o1 out : am_O} {qa : Array Value}
    (hr : vx_Run p l e R s m args below meth c H locs cells slots mc ms (F0 m pc ls st0) (rest.map (am_t ad)) (am_Qc D cl tc (va_A (am_ws tc ad 0 h) H.size) h.length ad o1 qa) (am_XC D cl tc (va_A (am_ws tc ad 0 h) H.size) h.length ad o1) (va_A (am_ws tc ad 0 h) H.size))
    (kv : ∀ v h', o1 = (.inl v, h') → am_W p l e R s m args below meth c (am_Q below args s R D cl tc A n0 ad0 out) D cl tc A nL n0 ad0 (pc + 3) lv (v.toList ++ rest) h' (b.1 - mc, b.2 - ms)) (kx : ∀ x h', o1 = (.inr x, h') → am_WX p l e R s m args below meth c (am_Q below args s R D cl tc A n0 ad0 out) D cl tc A nL n0 ad0 pc lv x h' (b.1 - mc, b.2 - ms)) :
    W p l e R s m args below meth c H locs cells slots (am_Q below args s R D cl tc A n0 ad0 out) (F0 m pc ls st0) := by
  obtain ⟨⟨_, hK, hA, hro⟩, -⟩ := C
  have hsub := am_J.sub hA J
  obtain ⟨j1, j2, j3, hP, hD, hS⟩ := J
  intro T hT X
  rcases hr T hT X with ⟨v, st₀, t, T', L, h0, X', hL, e1, e2, ⟨⟨v', h', ad', ho, hv, E1, E2, E3, E4, E5⟩, hF⟩, st⟩ | ⟨q, st₀, t, T', L, EX, ce, h0, X', hL, e1, e2, ⟨⟨x, h', ad', rfl, ho, E1, E2, E3, E4, E5⟩, hF⟩, hce, hcv, hcl', st⟩
  · have hvv : v = v'.map (am_t ad') := Outcome.returned.inj hv
    subst hvv
    obtain ⟨k1, k2, k3⟩ := vx_keep h0 e1 hS (fun q _ h => hsub q h) hsub hL hF
    have J' : am_J D cl tc A s n0 ad0 ad' h' T'.heap (locs ++ L) := ⟨Nat.le_trans j1 E1, fun k hk => (E2 k (Nat.lt_of_lt_of_le hk j1)).trans (j2 k hk), E3.trans j3, by rw [e1]; exact E4, E5.weaken (fun _ q _ hq => hsub q.1 hq), k3⟩
    obtain ⟨t2, a1, b1⟩ := kv v' h' ho ad' T'.heap (locs ++ L) (cells + mc) (slots + ms) ls J' (by rw [am_cl_lv c1 E2 E3]; exact hl) (by show cells + mc + (b.1 - mc) ≤ _; omega) (by show slots + ms + (b.2 - ms) ≤ _; omega) T' rfl X'
    refine ⟨t2, st t2 ?_, b1⟩
    rw [List.map_append, am_cl_L c2 E2 E3] at a1
    cases v' with
    | none => exact a1
    | some v' => exact a1
  · obtain ⟨k1, k2, k3⟩ := vx_keep h0 e1 hS (fun q _ h => hsub q h) hsub hL hF
    have J' : am_J D cl tc A s n0 ad0 ad' h' T'.heap (locs ++ L) := ⟨Nat.le_trans j1 E1, fun k hk => (E2 k (Nat.lt_of_lt_of_le hk j1)).trans (j2 k hk), E3.trans j3, by rw [e1]; exact E4, E5.weaken (fun _ q _ hq => hsub q.1 hq), k3⟩
    obtain ⟨t2, a1, b1⟩ := kx x h' ho ad' T'.heap (locs ++ L) (cells + mc) (slots + ms) ls (rest.map (am_t ad)) q ce J' (by rw [am_cl_lv c1 E2 E3]; exact hl) (by show cells + mc + (b.1 - mc) ≤ _; omega) (by show slots + ms + (b.2 - ms) ≤ _; omega) (by rw [e1]; exact hce) hcv hcl' T' rfl X'
    exact ⟨t2, st.trans a1, b1⟩
def am_n : am_I → Nat
  | (_, _, n) :: _ => n
  | [] => 0
/-- what comes behind a call -/
def am_ri (o : Option am_O) (K : Int32 → am_H → Option am_O) (KX : Nat → am_H → Option am_O) : Option am_O := match o with
  | some (.inl (some (.inl (.int x))), h') => K x h'
  | some (.inr x, h') => KX x h'
  | _ => none
def am_rv (o : Option am_O) (K : am_H → Option am_O) (KX : Nat → am_H → Option am_O) : Option am_O := match o with
  | some (.inl none, h') => K h'
  | some (.inr x, h') => KX x h'
  | _ => none
/-- a call whose answer is an int -/
def am_fci (rk : Option Nat) (n : Nat) (F : List am_V → am_H → Option am_O) (mc ms : Nat) : am_F := fun is lv st h b K KX =>
  if am_n is = 3 then (if am_rcv rk (st.take n).reverse h = true then (if (st.take n).length = n then (if ((st.drop n).map am_cat).sum ≤ 8 then (if (lv.all (fun q => am_clV h q.2) && (st.drop n).all (am_clV h)) = true then (if mc ≤ b.1 then (if ms ≤ b.2 then (am_ri (F (st.take n).reverse h) (fun x h' => K (.inl (.int x) :: st.drop n) h' (b.1 - mc, b.2 - ms)) (fun x h' => KX x h' (b.1 - mc, b.2 - ms))) else none) else none) else none) else none) else none) else none) else none
/-- a call without an answer -/
def am_fcv (rk : Option Nat) (n : Nat) (F : List am_V → am_H → Option am_O) (mc ms : Nat) : am_F := fun is lv st h b K KX =>
  if am_n is = 3 then (if am_rcv rk (st.take n).reverse h = true then (if (st.take n).length = n then (if ((st.drop n).map am_cat).sum ≤ 8 then (if (lv.all (fun q => am_clV h q.2) && (st.drop n).all (am_clV h)) = true then (if mc ≤ b.1 then (if ms ≤ b.2 then (am_rv (F (st.take n).reverse h) (fun h' => K (st.drop n) h' (b.1 - mc, b.2 - ms)) (fun x h' => KX x h' (b.1 - mc, b.2 - ms))) else none) else none) else none) else none) else none) else none) else none
theorem am_catsum (ad : am_A) (st : List am_V) : ((st.map (am_t ad)).map fun v => v.category) = st.map am_cat := by
  rw [List.map_map]
  apply List.map_congr_left
  intro v _
  exact am_t_cat ad v
theorem am_fci_ok (C : am_Cx p l R s m args meth c cc nL Ts own D cl tc A rs zs hs ad0) {key : Nat × Nat} {rk : Option Nat} {n mc ms : Nat} {F : List am_V → am_H → Option am_O} (hr : am_rn p l e R s m args below meth c D cl tc A nL n0 ad0 cc key rk n F mc ms) : am_op p l e R s m args below meth c D cl tc A nL n0 ad0 cc key (am_fci rk n F mc ms) := by
  intro out pc n3 i is lv st h b K KX hkey hch h1 kk kx ad H locs cells slots ls J hl hc hs
  unfold am_fci at h1
  replace h1 := am_if h1
  obtain ⟨a0, h1⟩ := h1
  have a0 : n3 = 3 := a0
  subst a0
  obtain ⟨a9, h1⟩ := am_if h1
  obtain ⟨a1, h1⟩ := am_if h1
  obtain ⟨a2, h1⟩ := am_if h1
  obtain ⟨a3, h1⟩ := am_if h1
  obtain ⟨a4, h1⟩ := am_if h1
  obtain ⟨a5, h1⟩ := am_if h1
  simp only [Bool.and_eq_true] at a3
  cases hF : F (st.take n).reverse h with
  | none => rw [hF] at h1; cases h1
  | some o1 =>
    rw [hF] at h1
    have run := hr pc i ad h H locs cells slots ls (st.take n).reverse (st.drop n) o1 hkey (am_chk_hd hch) J hl.1 a9 (by rw [List.length_reverse]; exact a1) (by rw [am_catsum]; exact a2) hF (by omega) (by omega)
    rw [List.reverse_reverse, List.take_append_drop] at run
    refine am_cont C J hl hc hs a4 a5 a3.1 a3.2 run (fun v h' ho => ?_) (fun X h' ho => ?_)
    · subst ho
      unfold am_ri at h1
      split at h1
      · rename_i x h9 q9
        cases q9
        exact kk _ _ _ h1
      · rename_i q9
        cases q9
      · cases h1
    · subst ho
      exact kx _ _ _ h1
theorem am_fcv_ok (C : am_Cx p l R s m args meth c cc nL Ts own D cl tc A rs zs hs ad0) {key : Nat × Nat} {rk : Option Nat} {n mc ms : Nat} {F : List am_V → am_H → Option am_O} (hr : am_rn p l e R s m args below meth c D cl tc A nL n0 ad0 cc key rk n F mc ms) : am_op p l e R s m args below meth c D cl tc A nL n0 ad0 cc key (am_fcv rk n F mc ms) := by
  intro out pc n3 i is lv st h b K KX hkey hch h1 kk kx ad H locs cells slots ls J hl hc hs
  unfold am_fcv at h1
  replace h1 := am_if h1
  obtain ⟨a0, h1⟩ := h1
  have a0 : n3 = 3 := a0
  subst a0
  obtain ⟨a9, h1⟩ := am_if h1
  obtain ⟨a1, h1⟩ := am_if h1
  obtain ⟨a2, h1⟩ := am_if h1
  obtain ⟨a3, h1⟩ := am_if h1
  obtain ⟨a4, h1⟩ := am_if h1
  obtain ⟨a5, h1⟩ := am_if h1
  simp only [Bool.and_eq_true] at a3
  cases hF : F (st.take n).reverse h with
  | none => rw [hF] at h1; cases h1
  | some o1 =>
    rw [hF] at h1
    have run := hr pc i ad h H locs cells slots ls (st.take n).reverse (st.drop n) o1 hkey (am_chk_hd hch) J hl.1 a9 (by rw [List.length_reverse]; exact a1) (by rw [am_catsum]; exact a2) hF (by omega) (by omega)
    rw [List.reverse_reverse, List.take_append_drop] at run
    refine am_cont C J hl hc hs a4 a5 a3.1 a3.2 run (fun v h' ho => ?_) (fun X h' ho => ?_)
    · subst ho
      unfold am_rv at h1
      split at h1
      · rename_i h9 q9
        cases q9
        exact kk _ _ _ h1
      · rename_i q9
        cases q9
      · cases h1
    · subst ho
      exact kx _ _ _ h1
theorem am_key2 {i : Instr} {k : Nat} (h : am_key i = (2, k)) : i = .invokestatic k := by
  unfold am_key at h
  split at h <;> simp_all
theorem am_key3 {i : Instr} {k : Nat} (h : am_key i = (3, k)) : i = .invokevirtual k := by
  unfold am_key at h
  split at h <;> simp_all
theorem am_key4 {i : Instr} {k : Nat} (h : am_key i = (4, k)) : i = .invokespecial k := by
  unfold am_key at h
  split at h <;> simp_all
end AMC
