/-! a method's contract is the run of its code -/
/-- the run of a method: its code, its pool, its handlers -/
def am_fn (T : am_I) (X : am_X) (nL : Nat) (rt : Option FieldType) (rs : Nat → Option (Nat × (Nat → Int32))) (hs : am_Hs) (kp : am_Kp) (N : Nat) (b : Nat × Nat) : List am_V → am_H → Option am_O := fun as h => if (as.map am_cat).sum ≤ nL then am_lp T X nL rt rs hs kp N 0 (am_args 0 as) [] h b else none
theorem am_args_t (ad : am_A) : ∀ (as : List am_V) (i : Nat), (am_args i as).map (fun q => (q.1, am_t ad q.2)) = lv_args i (as.map (am_t ad))
  | [], _ => rfl
  | v :: as, i => by
    show (i, am_t ad v) :: (am_args _ as).map _ = (i, am_t ad v) :: lv_args _ (as.map (am_t ad))
    rw [am_args_t ad as, am_t_cat]
theorem am_sl_len : ∀ (vs : List Value), (lg_sl vs).length = (vs.map fun v => v.category).sum
  | [] => rfl
  | v :: vs => by
    show ((if v.category = 2 then [Slot.val v, Slot.second] else [Slot.val v]) ++ lg_sl vs).length = v.category + (vs.map fun v => v.category).sum
    rw [List.length_append, am_sl_len vs]
    rcases lv_cat v with h | h
    · rw [if_neg (by omega), h]; rfl
    · rw [if_pos h, h]; rfl
/-- what a class's pool must stand for in a method's body -/
def am_ok (cl : List vw_C) (rs : Nat → Option (Nat × (Nat → Int32))) (zs : am_Zt) (l : Launch) (y : MethodName) (cc : ByteArray) (nL : Nat) (Ts : List Cond) (rm : Room) (hs : am_Hs) (X : am_X) : Prop :=
  ∀ (p : Program) (e : Env) (s : State) (m : MethodId) (args : Array Value) (below : List Frame) (meth : Method) (c : Code) (D : va_G) (tc : Nat → ClassId) (A : Nat → Prop) (n0 : Nat) (ad0 : am_A), am_Cx p l rm s m args meth c cc nL Ts y.cls D cl tc A rs zs hs ad0 → meth.name = y.name → ∀ key φ, X.lookup key = some φ → am_op p l e rm s m args below meth c D cl tc A nL n0 ad0 cc key φ
theorem am_body {cl : List vw_C} {rs : Nat → Option (Nat × (Nat → Int32))} {zs : am_Zt} {l : Launch} {y : MethodName} {cc : ByteArray} {nL : Nat} {rt : Option FieldType} {ws : List Cond} {rm : Room} {hs : am_Hs} {X : am_X} {T : am_I} {kp : am_Kp} {N : Nat} (hl : l.stackTraces = false) (hT : am_chk cc T = true) (hX : am_ok cl rs zs l y cc nL ws rm hs X) (hhk : ∀ (s : State) (args : Array Value) (ra : Nat → Nat) (A : Nat → Prop), (∀ w ∈ ws, w.before args s = true) → am_zs zs ra A s s.heap → am_hk s args y.cls hs)
    {D : va_G} {tc : Nat → ClassId} {ad : am_A} {as : List am_V} {h : am_H} {sz : Nat} {out : am_O} (hF : am_fn T X nL rt rs hs kp N (rm.cells, rm.slots) as h = some out) {p : Program} {e : Env} {s : State} {m : MethodId} {args : Array Value} {below : List Frame} {meth : Method} {c : Code} {s₁ : State} (B : BodyLoose p l y (headSpec ws rm) cc nL rt e s m args below meth c s₁) (hml : c.maxLocals = nL) (htb : c.exceptionTable.toList = tableOf (am_tb hs)) (hv : am_Pc D cl tc rs zs ad as h sz args s) :
    W p l e (headSpec ws rm).room s m args below meth c s.heap [] 0 0 (vx_MQ below (am_Qc D cl tc (va_A (am_ws tc ad 0 h) sz) h.length ad out) (am_XC D cl tc (va_A (am_ws tc ad 0 h) sz) h.length ad out) args s rm.cells rm.slots (va_A (am_ws tc ad 0 h) sz)) (entryFrame m args nL) := by
  obtain ⟨rfl, hsz, hP, hK, hD0, hro, hz⟩ := hv
  have hx := B.exec
  have hb := B.bytes
  have hr := B.returns
  have hts := atoms_spec (ws := ws) B.pre
  have hown : s.vm.findClass y.cls = some m.cls := findClass_of_methodNamed B.named
  have hlocks := B.notSynchronized
  have hin : meth.name = y.name := (name_of_methodNamed B.named B.method).1
  subst hsz
  have hA : ∀ q, s.heap.size ≤ q → va_A (am_ws tc ad 0 h) s.heap.size q := fun q h => Or.inr h
  have C : am_Cx p l rm s m (as.map (am_t ad)).toArray meth c cc nL ws y.cls D cl tc (va_A (am_ws tc ad 0 h) s.heap.size) rs zs hs ad := ⟨⟨⟨hx, hb, hml, hown, hts⟩, hK, hA, hro⟩, hz, hlocks, htb, hl⟩
  unfold am_fn at hF
  obtain ⟨hlen, hF⟩ := am_if hF
  have hlv := lv_entry (as.map (am_t ad)) (n := nL) (by rw [am_sl_len, am_catsum]; exact hlen)
  rw [lg_entry_eq]
  exact am_lp_ok C.1 hr hlocks htb (hhk s _ _ _ hts hz) hT (hX p e s m _ below meth c D tc _ h.length ad C hin) N 0 (am_args 0 as) [] h (rm.cells, rm.slots) hF ad s.heap [] 0 0 _ ⟨Nat.le_refl _, fun _ _ => rfl, rfl, hP, hD0.self, va_S.rf⟩ (by rw [am_args_t]; exact hlv) (by show 0 + _ ≤ _; exact Nat.le_of_eq (Nat.zero_add _)) (by show 0 + _ ≤ _; exact Nat.le_of_eq (Nat.zero_add _))
theorem am_meth {cl : List vw_C} {rs : Nat → Option (Nat × (Nat → Int32))} {zs : am_Zt} {l : Launch} {y : MethodName} {cc : ByteArray} {nL : Nat} {rt : Option FieldType} {ws' : List Cond} {rm : Room} {X : am_X} {T : am_I} {kp : am_Kp} {N : Nat} (hl : l.stackTraces = false) (hy : plainName y.cls = true) (hT : am_chk cc T = true) (hX : am_ok cl rs zs l y cc nL (Cond.code y cc nL rt :: ws') rm [] X) : am_M cl rs zs l y (Cond.code y cc nL rt :: ws') rm (am_fn T X nL rt rs [] kp N (rm.cells, rm.slots)) := by
  intro D tc ad as h sz out hF
  refine vx_ofW (cc := cc) (maxL := nL) (ret := rt) hy rfl ?_
  intro p e s m args below meth c s₁ B hml hnt hv
  refine am_body hl hT hX (fun _ _ _ _ _ _ q hq => by cases hq) hF B hml ?_ hv
  cases he : c.exceptionTable.toList with
  | nil => rfl
  | cons x r => exact (hnt x (by rw [he]; exact List.mem_cons_self)).elim
theorem am_methH {cl : List vw_C} {rs : Nat → Option (Nat × (Nat → Int32))} {zs : am_Zt} {l : Launch} {y : MethodName} {cc : ByteArray} {nL : Nat} {rt : Option FieldType} {ws' : List Cond} {rm : Room} {hs : am_Hs} {X : am_X} {T : am_I} {kp : am_Kp} {N : Nat} (hl : l.stackTraces = false) (hy : plainName y.cls = true) (hT : am_chk cc T = true) (hX : am_ok cl rs zs l y cc nL (Cond.codeWith y cc nL rt (am_tb hs) :: ws') rm hs X) (hk : ∀ q ∈ hs, q.2.2.2.1 ≠ 0 ∧ q.2.2.2.2 < 5 ∧ Cond.classLink y.cls q.2.2.2.1 (am_xn q.2.2.2.2) ∈ ws' ∧ Cond.castable (am_xn q.2.2.2.2) (am_xn q.2.2.2.2) ∈ zs.2) : am_M cl rs zs l y (Cond.codeWith y cc nL rt (am_tb hs) :: ws') rm (am_fn T X nL rt rs hs kp N (rm.cells, rm.slots)) := by
  intro D tc ad as h sz out hF
  refine vx_ofWH (cc := cc) (maxL := nL) (ret := rt) (hh := am_tb hs) hy rfl ?_
  intro p e s m args below meth c s₁ B hml hv
  refine am_body hl hT hX (fun s' args' ra A' hts hz q hq => ?_) hF B hml (vx_table (x := y) B (atoms_spec (ws := Cond.codeWith y cc nL rt (am_tb hs) :: ws') B.pre _ List.mem_cons_self)) hv
  obtain ⟨k1, k2, k3, k4⟩ := hk q hq
  exact ⟨k1, hts _ (List.mem_cons_of_mem _ k3), va_Nw.use rfl (hz.2.2.1 _ k4).2, fun x h1 h2 => hz.1 x _ h1 k2 h2⟩
