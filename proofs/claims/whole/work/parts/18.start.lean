/-! from the law's run to the claim -/
set_option maxRecDepth 20000 in
theorem z_1_24 : (Jvm.Cond.arrayOver (Jvm.ClassFile.FieldType.array Jvm.ClassFile.FieldType.int)) ∈ lw_tbl := List.mem_append_right _ (List.mem_append_left _ (List.mem_of_getElem? (i := 24) rfl))
set_option maxRecDepth 20000 in
theorem z_1_50 : (Jvm.Cond.fieldLinkNest "PagingKernel" (144 : Nat) "PagingKernel$Memory" "hand" "I" "PagingKernel") ∈ lw_tbl := List.mem_append_right _ (List.mem_append_left _ (List.mem_of_getElem? (i := 50) rfl))
set_option maxRecDepth 20000 in
theorem z_1_52 : (Jvm.Cond.fieldLinkNest "PagingKernel" (137 : Nat) "PagingKernel$Memory" "fills" "I" "PagingKernel") ∈ lw_tbl := List.mem_append_right _ (List.mem_append_left _ (List.mem_of_getElem? (i := 52) rfl))
set_option maxRecDepth 20000 in
theorem z_1_54 : (Jvm.Cond.fieldLinkNest "PagingKernel" (141 : Nat) "PagingKernel$Memory" "copies" "I" "PagingKernel") ∈ lw_tbl := List.mem_append_right _ (List.mem_append_left _ (List.mem_of_getElem? (i := 54) rfl))
set_option maxRecDepth 20000 in
theorem z_1_56 : (Jvm.Cond.fieldLinkNest "PagingKernel" (147 : Nat) "PagingKernel$Memory" "sentOut" "I" "PagingKernel") ∈ lw_tbl := List.mem_append_right _ (List.mem_append_left _ (List.mem_of_getElem? (i := 56) rfl))
set_option maxRecDepth 20000 in
theorem z_1_105 : (Jvm.Cond.laysStatic "PagingKernel" "DATA_AT_START" "[I") ∈ lw_tbl := List.mem_append_right _ (List.mem_append_left _ (List.mem_of_getElem? (i := 105) rfl))
set_option maxRecDepth 20000 in
theorem z_1_160 : (Jvm.Cond.castable "java/lang/IllegalArgumentException" "java/lang/IllegalArgumentException") ∈ lw_tbl := List.mem_append_right _ (List.mem_append_left _ (List.mem_of_getElem? (i := 160) rfl))
set_option maxRecDepth 20000 in
theorem z_1_161 : (Jvm.Cond.declares ({ cls := "java/lang/RuntimeException", name := "<init>", desc := "()V" } : Jvm.MethodName)) ∈ lw_tbl := List.mem_append_right _ (List.mem_append_left _ (List.mem_of_getElem? (i := 161) rfl))
set_option maxRecDepth 20000 in
theorem z_1_162 : (Jvm.Cond.declares ({ cls := "java/lang/RuntimeException", name := "<init>", desc := "(Ljava/lang/String;)V" } : Jvm.MethodName)) ∈ lw_tbl := List.mem_append_right _ (List.mem_append_left _ (List.mem_of_getElem? (i := 162) rfl))
set_option maxRecDepth 20000 in
theorem z_1_163 : (Jvm.Cond.declares ({ cls := "java/lang/Exception", name := "<init>", desc := "()V" } : Jvm.MethodName)) ∈ lw_tbl := List.mem_append_right _ (List.mem_append_left _ (List.mem_of_getElem? (i := 163) rfl))
set_option maxRecDepth 20000 in
theorem z_1_164 : (Jvm.Cond.declares ({ cls := "java/lang/Exception", name := "<init>", desc := "(Ljava/lang/String;)V" } : Jvm.MethodName)) ∈ lw_tbl := List.mem_append_right _ (List.mem_append_left _ (List.mem_of_getElem? (i := 164) rfl))
set_option maxRecDepth 20000 in
theorem z_1_165 : (Jvm.Cond.declares ({ cls := "java/lang/Throwable", name := "<init>", desc := "()V" } : Jvm.MethodName)) ∈ lw_tbl := List.mem_append_right _ (List.mem_append_left _ (List.mem_of_getElem? (i := 165) rfl))
set_option maxRecDepth 20000 in
theorem z_1_166 : (Jvm.Cond.declares ({ cls := "java/lang/Throwable", name := "<init>", desc := "(Ljava/lang/String;)V" } : Jvm.MethodName)) ∈ lw_tbl := List.mem_append_right _ (List.mem_append_left _ (List.mem_of_getElem? (i := 166) rfl))
set_option maxRecDepth 20000 in
theorem z_1_185 : (Jvm.Cond.laysStatic "java/lang/Throwable" "UNASSIGNED_STACK" "[Ljava/lang/StackTraceElement;") ∈ lw_tbl := List.mem_append_right _ (List.mem_append_left _ (List.mem_of_getElem? (i := 185) rfl))
set_option maxRecDepth 20000 in
theorem z_1_187 : (Jvm.Cond.laysStatic "java/lang/Throwable" "SUPPRESSED_SENTINEL" "Ljava/util/List;") ∈ lw_tbl := List.mem_append_right _ (List.mem_append_left _ (List.mem_of_getElem? (i := 187) rfl))
set_option maxRecDepth 20000 in
theorem z_1_229 : (Jvm.Cond.castable "java/util/NoSuchElementException" "java/util/NoSuchElementException") ∈ lw_tbl := List.mem_append_right _ (List.mem_append_left _ (List.mem_of_getElem? (i := 229) rfl))
set_option maxRecDepth 20000 in
theorem z_2_8 : (Jvm.Cond.castable "java/lang/UnsupportedOperationException" "java/lang/UnsupportedOperationException") ∈ lw_tbl := List.mem_append_right _ (List.mem_append_right _ (List.mem_append_left _ (List.mem_of_getElem? (i := 8) rfl)))
set_option maxRecDepth 20000 in
theorem z_2_61 : (Jvm.Cond.castable "java/lang/IllegalStateException" "java/lang/IllegalStateException") ∈ lw_tbl := List.mem_append_right _ (List.mem_append_right _ (List.mem_append_left _ (List.mem_of_getElem? (i := 61) rfl)))
set_option maxRecDepth 20000 in
theorem z_2_103 : (Jvm.Cond.castable "java/lang/IndexOutOfBoundsException" "java/lang/IndexOutOfBoundsException") ∈ lw_tbl := List.mem_append_right _ (List.mem_append_right _ (List.mem_append_left _ (List.mem_of_getElem? (i := 103) rfl)))
def R_law : String := "PagingKernelLaw"
def lw_P (b : Addr) (xs : List Int32) (args : Array Value) (s : State) : Prop := args = #[.ref b] ∧ s.IntsAt b xs ∧ xs.length ≤ 2050 ∧ (Jvm.Cond.and given_1 narrow_1).before args s = true
def lw_Q (_ : Array Value) (s : State) (o : Outcome) (t : State) : Prop := o = .returned (some (.int 1)) ∧ Framed s o t [] 616043 7247942
def lw_Z (below : List Frame) (a : Array Value) (s : State) : State → Prop := fun t => ∃ o, t.status = .running ∧ Ended t below o ∧ lw_Q a s o t
def lw_At (p : Program) (s : State) (m : MethodId) (meth : Method) (c : Code) (b L : Nat) (xs : Nat → Int32) : Prop :=
  p.tables.exec = Jvm.exec ∧ c.code = code ∧ meth.sig.returnType = ret ∧ c.maxLocals = 7 ∧ s.vm.findClass R_law = some m.cls ∧ (∀ w ∈ lw_tbl, w.before #[Value.ref b] s = true) ∧ va_X b L xs s s.heap ∧ b < s.heap.size ∧ meth.locks = false ∧ (Jvm.Cond.and given_1 narrow_1).before #[Value.ref b] s = true ∧ c.exceptionTable.toList = []
/-- the constant arrays and the script -/
def am_rsL (L : Nat) (xs : Nat → Int32) : Nat → Option (Nat × (Nat → Int32)) := fun j => match j with
  | 0 => some (3, fun i => if i = 0 then 1 else if i = 1 then 2 else 4)
  | 1 => some (L, xs)
  | _ => none
/-- the law's run on a script -/
def F_law (L : Nat) (xs : Nat → Int32) : Option am_O := am_lp T_L_law (X_L_law (am_rsL L xs)) 7 (some .boolean) (am_rsL L xs) [] [(43, [0, 1, 2, 3, 4])] 1000 0 [(0, .inl (.retAddr 1))] [] [] (616043, 7247942)
theorem am_rc {args : Array Value} {s : State} {t : FieldType} (h : (Cond.arrayClass t).before args s = true) (ho : ∀ C, t ≠ .object C) : ∃ c : ClassId, ArrOfT s c t ∧ va_RA s c t := by
  obtain ⟨c, k, comp, h1, h2, h3⟩ := Cond.arrayClass_spec h
  refine ⟨c, fun N z => ⟨(fun q hq => by cases hq), k, h2, comp, h3⟩, ?_⟩
  cases t <;> first | exact h1 | exact absurd rfl (ho _)
theorem am_rcA {args : Array Value} {s : State} {t : FieldType} (h : (Cond.arrayOver (.array t)).before args s = true) : ∃ c : ClassId, ArrOfT s c (.array t) ∧ va_RA s c (.array t) := by
  obtain ⟨comp, c, k, hc, hi, hk, hkind, hn⟩ := arrayOverA_spec h
  exact ⟨c, fun N z => ⟨(fun q hq => by cases hq), k, hk, comp, hkind⟩, hn⟩
set_option maxRecDepth 100000 in
set_option maxHeartbeats 4000000 in
theorem am_ncs {args : Array Value} {s : State} (hfl : ∀ w ∈ flatC (Jvm.Cond.and given_1 narrow_1), w.before args s = true) : ∀ x y, x < 5 → y < 5 → x ≠ y → va_Nc (am_xn x) (am_xn y) s := by
  intro x y hx hy hn
  match x, y, hx, hy, hn with
    | 0, 0, _, _, hn => exact absurd rfl hn
    | 0, 1, _, _, hn => exact va_Nc.of (hfl (.not (.castable "java/lang/IllegalArgumentException" "java/util/NoSuchElementException")) (by decide +kernel))
    | 0, 2, _, _, hn => exact va_Nc.of (hfl (.not (.castable "java/lang/IllegalArgumentException" "java/lang/UnsupportedOperationException")) (by decide +kernel))
    | 0, 3, _, _, hn => exact va_Nc.of (hfl (.not (.castable "java/lang/IllegalArgumentException" "java/lang/IllegalStateException")) (by decide +kernel))
    | 0, 4, _, _, hn => exact va_Nc.of (hfl (.not (.castable "java/lang/IllegalArgumentException" "java/lang/IndexOutOfBoundsException")) (by decide +kernel))
    | 0, y + 5, _, hy, _ => exact absurd hy (by omega)
    | 1, 0, _, _, hn => exact va_Nc.of (hfl (.not (.castable "java/util/NoSuchElementException" "java/lang/IllegalArgumentException")) (by decide +kernel))
    | 1, 1, _, _, hn => exact absurd rfl hn
    | 1, 2, _, _, hn => exact va_Nc.of (hfl (.not (.castable "java/util/NoSuchElementException" "java/lang/UnsupportedOperationException")) (by decide +kernel))
    | 1, 3, _, _, hn => exact va_Nc.of (hfl (.not (.castable "java/util/NoSuchElementException" "java/lang/IllegalStateException")) (by decide +kernel))
    | 1, 4, _, _, hn => exact va_Nc.of (hfl (.not (.castable "java/util/NoSuchElementException" "java/lang/IndexOutOfBoundsException")) (by decide +kernel))
    | 1, y + 5, _, hy, _ => exact absurd hy (by omega)
    | 2, 0, _, _, hn => exact va_Nc.of (hfl (.not (.castable "java/lang/UnsupportedOperationException" "java/lang/IllegalArgumentException")) (by decide +kernel))
    | 2, 1, _, _, hn => exact va_Nc.of (hfl (.not (.castable "java/lang/UnsupportedOperationException" "java/util/NoSuchElementException")) (by decide +kernel))
    | 2, 2, _, _, hn => exact absurd rfl hn
    | 2, 3, _, _, hn => exact va_Nc.of (hfl (.not (.castable "java/lang/UnsupportedOperationException" "java/lang/IllegalStateException")) (by decide +kernel))
    | 2, 4, _, _, hn => exact va_Nc.of (hfl (.not (.castable "java/lang/UnsupportedOperationException" "java/lang/IndexOutOfBoundsException")) (by decide +kernel))
    | 2, y + 5, _, hy, _ => exact absurd hy (by omega)
    | 3, 0, _, _, hn => exact va_Nc.of (hfl (.not (.castable "java/lang/IllegalStateException" "java/lang/IllegalArgumentException")) (by decide +kernel))
    | 3, 1, _, _, hn => exact va_Nc.of (hfl (.not (.castable "java/lang/IllegalStateException" "java/util/NoSuchElementException")) (by decide +kernel))
    | 3, 2, _, _, hn => exact va_Nc.of (hfl (.not (.castable "java/lang/IllegalStateException" "java/lang/UnsupportedOperationException")) (by decide +kernel))
    | 3, 3, _, _, hn => exact absurd rfl hn
    | 3, 4, _, _, hn => exact va_Nc.of (hfl (.not (.castable "java/lang/IllegalStateException" "java/lang/IndexOutOfBoundsException")) (by decide +kernel))
    | 3, y + 5, _, hy, _ => exact absurd hy (by omega)
    | 4, 0, _, _, hn => exact va_Nc.of (hfl (.not (.castable "java/lang/IndexOutOfBoundsException" "java/lang/IllegalArgumentException")) (by decide +kernel))
    | 4, 1, _, _, hn => exact va_Nc.of (hfl (.not (.castable "java/lang/IndexOutOfBoundsException" "java/util/NoSuchElementException")) (by decide +kernel))
    | 4, 2, _, _, hn => exact va_Nc.of (hfl (.not (.castable "java/lang/IndexOutOfBoundsException" "java/lang/UnsupportedOperationException")) (by decide +kernel))
    | 4, 3, _, _, hn => exact va_Nc.of (hfl (.not (.castable "java/lang/IndexOutOfBoundsException" "java/lang/IllegalStateException")) (by decide +kernel))
    | 4, 4, _, _, hn => exact absurd rfl hn
    | 4, y + 5, _, hy, _ => exact absurd hy (by omega)
    | x + 5, _, hx, _, _ => exact absurd hx (by omega)
set_option maxRecDepth 100000 in
set_option maxHeartbeats 4000000 in
theorem law_of_run {p : Program} {e : Env} {s : State} {m : MethodId} {below : List Frame} {meth : Method} {c : Code} {l : Launch} (hl : l.stackTraces = false) {b L : Nat} {xs : Nat → Int32} (hL : L ≤ 2050) (C0 : lw_At p s m meth c b L xs) {h' : am_H} (hrun : F_law L xs = some (.inl (some (.inl (.int 1))), h')) : W p l e room_1 s m #[Value.ref b] below meth c s.heap [] 0 0 (lw_Z below #[Value.ref b] s) (entryFrame m ([Value.ref b] : List Value).toArray 7) := by
  obtain ⟨hx, hb, hr, hml, hown, hts, hX, hbl, hlocks, hgv, htab⟩ := C0
  have hA : ∀ q : Nat, s.heap.size ≤ q → (fun q : Nat => s.heap.size ≤ q) q := fun _ h => h
  have hnA : ∀ a : Nat, a < s.heap.size → ¬ (fun q : Nat => s.heap.size ≤ q) a := fun a h => Nat.not_le.mpr h
  have htg : ∀ w ∈ lw_good, w.before #[Value.ref b] s = true := fun w hw => hts w (List.mem_filter.mp hw).1
  have hfl := flat_of_before _ hgv
  obtain ⟨c0, iS0, hK0⟩ := u_known (C := RX0) (T := TX0) (N := 10) (n := 10) htg hinX0 (htg _ w_1_26)
  obtain ⟨c1, iS1, hK1⟩ := u_known (C := RX1) (T := TX1) (N := 8) (n := 8) htg hinX1 (htg _ w_1_16)
  obtain ⟨c2, iS2, hK2⟩ := u_known (C := RX2) (T := TX2) (N := 20) (n := 20) htg hinX2 (htg _ w_3_6)
  obtain ⟨a0, hA0⟩ := am_rc (htg _ w_1_78) (fun C => by simp)
  obtain ⟨a1, hA1⟩ := am_rc (htg _ w_1_79) (fun C => by simp)
  obtain ⟨a2, hA2⟩ := am_rcA (hts _ z_1_24)
  obtain ⟨a3, hA3⟩ := am_rc (htg _ w_3_208) (fun C => by simp)
  obtain ⟨D, hD0, hD1, hD2⟩ : ∃ D : va_G, u_Kn s RX0 TX0 10 (D.1 0) (D.2 0) ∧ u_Kn s RX1 TX1 8 (D.1 1) (D.2 1) ∧ u_Kn s RX2 TX2 20 (D.1 2) (D.2 2) :=
    ⟨(fun k => if k = 0 then c0 else if k = 1 then c1 else c2, fun k => if k = 0 then iS0 else if k = 1 then iS1 else iS2), hK0, hK1, hK2⟩
  obtain ⟨tc, t0, t1, t2, t3⟩ : ∃ tc : Nat → ClassId, tc 0 = a0 ∧ tc 1 = a1 ∧ tc 2 = a2 ∧ tc 3 = a3 := ⟨fun k => if k = 0 then a0 else if k = 1 then a1 else if k = 2 then a2 else a3, rfl, rfl, rfl, rfl⟩
  subst t0; subst t1; subst t2; subst t3
  have hK : va_K D am_cl0 (am_tys tc) s := by
    refine ⟨fun k q hq => ?_, fun k q hq => ?_⟩
    · match k, hq with
      | 0, hq => cases hq; exact hD0
      | 1, hq => cases hq; exact hD1
      | 2, hq => cases hq; exact hD2
      | k + 3, hq => simp [am_cl0] at hq
    · match k, hq with
      | 0, hq => cases hq; exact hA0
      | 1, hq => cases hq; exact hA1
      | 2, hq => cases hq; exact hA2
      | 3, hq => cases hq; exact hA3
      | k + 4, hq => simp [am_tys] at hq
  have hel : ∀ j : Nat, j < 3 → (Term.elem (.static "PagingKernel" "DATA_AT_START" "[I") (.int (Int32.ofNat j))).eval #[Value.ref b] s none [] s = some (.int (if j = 0 then 1 else if j = 1 then 2 else 4)) := by
    intro j hj
    match j, hj with
    | 0, _ => exact va_eqt (hfl (.eq (.elem (.static "PagingKernel" "DATA_AT_START" "[I") (.int 0)) (.int 1)) (by decide +kernel))
    | 1, _ => exact va_eqt (hfl (.eq (.elem (.static "PagingKernel" "DATA_AT_START" "[I") (.int 1)) (.int 2)) (by decide +kernel))
    | 2, _ => exact va_eqt (hfl (.eq (.elem (.static "PagingKernel" "DATA_AT_START" "[I") (.int 2)) (.int 4)) (by decide +kernel))
    | j + 3, hj => exact absurd hj (by omega)
  obtain ⟨td, htd, hTd⟩ := va_Tof (A := fun q : Nat => s.heap.size ≤ q) (N := 3) (f := fun j => .int (if j = 0 then 1 else if j = 1 then 2 else 4)) (by decide) (hfl (.arrayOf (.static "PagingKernel" "DATA_AT_START" "[I") .int) (by decide +kernel)) (va_eqt (hfl (.eq (.length (.static "PagingKernel" "DATA_AT_START" "[I")) (.int 3)) (by decide +kernel))) hel hnA
  obtain ⟨ad0, e0, e1⟩ : ∃ ad0 : am_A, ad0.2 0 = td ∧ ad0.2 1 = b := ⟨(fun _ _ => 0, fun j => if j = 0 then td else b), rfl, rfl⟩
  have hTs : va_T .int b L (fun j => .int (xs j)) (fun q : Nat => s.heap.size ≤ q) s s.heap := by
    obtain ⟨scr, h1, h2, h3, h4, h5⟩ := hX
    exact ⟨scr, h1, h2, h3, Nat.le_of_eq h4.symm, by rw [h4], h5, hnA b hbl⟩
  have hro0 : am_ro am_rs0 ad0.2 (fun q : Nat => s.heap.size ≤ q) s s.heap := by
    intro j n f hj
    match j, hj with
    | 0, hj =>
      cases hj
      rw [e0]
      exact hTd
    | j + 1, hj => cases hj
  have hroL : am_ro (am_rsL L xs) ad0.2 (fun q : Nat => s.heap.size ≤ q) s s.heap := by
    intro j n f hj
    match j, hj with
    | 0, hj =>
      cases hj
      rw [e0]
      exact hTd
    | 1, hj =>
      cases hj
      rw [e1]
      exact hTs
    | j + 2, hj => cases hj
  have hzs : am_zs am_zs0 ad0.2 (fun q : Nat => s.heap.size ≤ q) s s.heap := by
    refine ⟨am_ncs hfl, hts _ z_1_24, ?_, ?_, vx_Zqof (hts _ z_1_185) (htg _ w_1_6) (hfl (.isRef (.static "java/lang/Throwable" "UNASSIGNED_STACK" "[Ljava/lang/StackTraceElement;")) (by decide +kernel)) hnA, vx_Zqof (hts _ z_1_187) (htg _ w_1_6) (hfl (.isRef (.static "java/lang/Throwable" "SUPPRESSED_SENTINEL" "Ljava/util/List;")) (by decide +kernel)) hnA⟩
    · exact List.forall_mem_cons.mpr ⟨⟨rfl, va_Nw.of rfl (hts _ z_1_160)⟩, List.forall_mem_cons.mpr ⟨⟨rfl, va_Nw.of rfl (hts _ z_1_229)⟩, List.forall_mem_cons.mpr ⟨⟨rfl, va_Nw.of rfl (hts _ z_2_8)⟩, List.forall_mem_cons.mpr ⟨⟨rfl, va_Nw.of rfl (hts _ z_2_61)⟩, List.forall_mem_cons.mpr ⟨⟨rfl, va_Nw.of rfl (hts _ z_2_103)⟩, List.forall_mem_cons.mpr ⟨⟨rfl, va_Nw.of rfl (hts _ z_1_50)⟩, List.forall_mem_cons.mpr ⟨⟨rfl, va_Nw.of rfl (hts _ z_1_52)⟩, List.forall_mem_cons.mpr ⟨⟨rfl, va_Nw.of rfl (hts _ z_1_54)⟩, List.forall_mem_cons.mpr ⟨⟨rfl, va_Nw.of rfl (hts _ z_1_56)⟩, List.forall_mem_cons.mpr ⟨⟨rfl, va_Nw.of rfl (hts _ z_1_161)⟩, List.forall_mem_cons.mpr ⟨⟨rfl, va_Nw.of rfl (hts _ z_1_162)⟩, List.forall_mem_cons.mpr ⟨⟨rfl, va_Nw.of rfl (hts _ z_1_163)⟩, List.forall_mem_cons.mpr ⟨⟨rfl, va_Nw.of rfl (hts _ z_1_164)⟩, List.forall_mem_cons.mpr ⟨⟨rfl, va_Nw.of rfl (hts _ z_1_165)⟩, List.forall_mem_cons.mpr ⟨⟨rfl, va_Nw.of rfl (hts _ z_1_166)⟩, fun q hq => nomatch hq⟩⟩⟩⟩⟩⟩⟩⟩⟩⟩⟩⟩⟩⟩⟩
    · refine List.forall_mem_cons.mpr ⟨?_, fun q hq => nomatch hq⟩
      show va_Z "PagingKernel" "DATA_AT_START" "[I" (.ref (ad0.2 0)) _ s s.heap
      rw [e0]
      exact va_Zref (hts _ z_1_105) (htg _ w_1_1) htd hnA
  have htc : ∀ w ∈ Cond.initialized RL :: lw_good, w.before #[Value.ref b] s = true := by
    intro w hw
    rcases List.mem_cons.mp hw with rfl | hw
    · exact hts _ (List.mem_append_right _ (List.mem_append_left _ (List.mem_of_getElem? (i := 0) rfl)))
    · exact htg w hw
  have hS : CallFix p m c code 7 s #[Value.ref b] (Cond.initialized RL :: lw_good) RL := ⟨hx, hb, hml, hown, htc⟩
  have C : am_Cx p l room_1 s m #[Value.ref b] meth c code 7 (Cond.initialized RL :: lw_good) RL D am_cl0 tc (fun q : Nat => s.heap.size ≤ q) (am_rsL L xs) am_zs0 [] ad0 := ⟨⟨hS, hK, hA, hroL⟩, hzs, hlocks, htab, hl⟩
  have C' : am_Cx p l room_1 s m #[Value.ref b] meth c code 7 (Cond.initialized RL :: lw_good) RL D am_cl0 tc (fun q : Nat => s.heap.size ≤ q) am_rs0 am_zs0 [] ad0 := ⟨⟨hS, hK, hA, hro0⟩, hzs, hlocks, htab, hl⟩
  have hlv := lv_entry ([.ref b]) (n := 7) (Nat.le_of_ble_eq_true rfl)
  rw [lg_entry_eq]
  have w := am_lp_ok (below := below) (e := e) (n0 := 0) C.1 (rt := some .boolean) hr hlocks (hs := []) htab (fun q hq => by cases hq) (T := T_L_law) chkL (X := X_L_law (am_rsL L xs)) (fun key φ hk => okL hl C C' (key, φ) (am_lkX hk)) 1000 0 _ [] [] (616043, 7247942) hrun ad0 s.heap [] 0 0 _ ⟨Nat.le_refl _, fun _ _ => rfl, rfl, fun k q hq => by simp [am_ws] at hq, ⟨fun i j p q hq => by simp [am_ws] at hq, fun k q hq => by simp [am_ws] at hq⟩, va_S.rf⟩ (by show lv_has _ 7 [(0, .ref (ad0.2 1))]; rw [e1]; exact hlv) (by decide) (by decide)
  intro T hT X
  obtain ⟨t, w1, o, w2, w3, w4⟩ := w T hT X
  refine ⟨t, w1, o, w2, w3, ?_⟩
  rcases w4 with ⟨⟨⟨v, h, ad, eo, ho, -⟩, -⟩, Lc, ⟨hv, hW, hsame⟩, hLc⟩ | ⟨q, -, E, ce, L9, ⟨⟨x, h9, ad9, -, e9, -⟩, -⟩, -⟩
  · cases eo
    exact ⟨ho, hv, hW, hsame.weaken (fun y hy hlt => absurd hlt (Nat.not_lt.mpr (hLc y hy))) (Nat.le_refl _) (Nat.le_refl _)⟩
  · cases e9
