section AMP
variable {p : Program} {l : Launch} {e : Env} {R : Room} {s : State} {m : MethodId} {args : Array Value} {below : List Frame} {meth : Method} {c : Code} {D : va_G} {tc : Nat → ClassId} {A : Nat → Prop} {nL n0 : Nat} {ad0 : am_A} {cc : ByteArray} {c0 : Cond} {hs : am_Hs} {rs : Nat → Option (Nat × (Nat → Int32))}
def X_L_cell : am_X := []
def F_L_cell (rs : Nat → Option (Nat × (Nat → Int32))) : List am_V → am_H → Option am_O := am_fn T_L_cell X_L_cell 2 (some .int) rs [] [] 400 (rm_L_cell.cells, rm_L_cell.slots)
theorem wc_L_cell : Cond.code y_L_cell method_2_code 2 (some .int) ∈ lw_good := w_1_141
set_option maxRecDepth 100000 in
theorem M_L_cell {rs : Nat → Option (Nat × (Nat → Int32))} {l : Launch} (hl : l.stackTraces = false) : am_M am_cl0 rs am_zs0 l y_L_cell (Cond.code y_L_cell method_2_code 2 (some .int) :: lw_good) rm_L_cell (F_L_cell rs) := am_meth hl (by decide +kernel) (by decide +kernel) (am_okx fun p e s m args below meth c D tc A n0 ad0 C hm => fun q hq => nomatch hq)
set_option maxRecDepth 10000 in
theorem op_L_3_7 (C : am_Cx p l R s m args meth c cc nL (c0 :: lw_good) RL D am_cl0 tc A am_rs0 am_zs0 hs ad0) (hl : l.stackTraces = false) (hR : rm_X1_fork.frames + 1 ≤ R.frames ∧ 8 + (3 + 11) + rm_X1_fork.locals ≤ R.locals) : am_op p l e R s m args below meth c D am_cl0 tc A nL n0 ad0 cc (3, 7) (am_fci (some 1) 2 F_X1_fork rm_X1_fork.cells rm_X1_fork.slots) := am_fci_ok C (am_rn_V C rfl (M_X1_fork hl) rfl (am_gd wc_X1_fork) (am_tl w_1_148) (am_tl w_1_149) (am_tl w_1_150) (am_tl w_1_1) (by decide +kernel) hR)
def X_L_fork : am_X := [((3, 7), (am_fci (some 1) 2 F_X1_fork rm_X1_fork.cells rm_X1_fork.slots))]
def H_L_fork : am_Hs := [(0, 9, 12, 13, 0), (0, 9, 15, 15, 1), (0, 9, 18, 17, 2)]
def F_L_fork : List am_V → am_H → Option am_O := am_fn T_L_fork X_L_fork 4 (some .int) am_rs0 H_L_fork [] 400 (rm_L_fork.cells, rm_L_fork.slots)
theorem wc_L_fork : Cond.codeWith y_L_fork method_3_code 4 (some .int) (am_tb H_L_fork) ∈ lw_good := w_1_144
set_option maxRecDepth 100000 in
theorem M_L_fork {l : Launch} (hl : l.stackTraces = false) : am_M am_cl0 am_rs0 am_zs0 l y_L_fork (Cond.codeWith y_L_fork method_3_code 4 (some .int) (am_tb H_L_fork) :: lw_good) rm_L_fork (F_L_fork) := am_methH hl (by decide +kernel) (by decide +kernel) (am_okx fun p e s m args below meth c D tc A n0 ad0 C hm => List.forall_mem_cons.mpr ⟨op_L_3_7 C hl ⟨by decide, by decide⟩, fun q hq => nomatch hq⟩)
  (by
    intro q hq
    match q, hq with
    | _, List.Mem.head _ => exact ⟨by decide, by decide, w_1_145, List.mem_of_getElem? (i := 0) rfl⟩
    | _, List.Mem.tail _ (List.Mem.head _) => exact ⟨by decide, by decide, w_1_146, List.mem_of_getElem? (i := 1) rfl⟩
    | _, List.Mem.tail _ (List.Mem.tail _ (List.Mem.head _)) => exact ⟨by decide, by decide, w_1_147, List.mem_of_getElem? (i := 2) rfl⟩)
set_option maxRecDepth 10000 in
theorem op_L_3_19 (C : am_Cx p l R s m args meth c cc nL (c0 :: lw_good) RL D am_cl0 tc A am_rs0 am_zs0 hs ad0) (hl : l.stackTraces = false) (hR : rm_X1_exec.frames + 1 ≤ R.frames ∧ 8 + (3 + 11) + rm_X1_exec.locals ≤ R.locals) : am_op p l e R s m args below meth c D am_cl0 tc A nL n0 ad0 cc (3, 19) (am_fci (some 1) 3 F_X1_exec rm_X1_exec.cells rm_X1_exec.slots) := am_fci_ok C (am_rn_V C rfl (M_X1_exec hl) rfl (am_gd wc_X1_exec) (am_tl w_2_28) (am_tl w_2_29) (am_tl w_2_30) (am_tl w_1_1) (by decide +kernel) hR)
def X_L_exec : am_X := [((3, 19), (am_fci (some 1) 3 F_X1_exec rm_X1_exec.cells rm_X1_exec.slots))]
def H_L_exec : am_Hs := [(0, 10, 13, 13, 0), (0, 10, 17, 15, 1)]
def F_L_exec : List am_V → am_H → Option am_O := am_fn T_L_exec X_L_exec 5 (some .int) am_rs0 H_L_exec [] 400 (rm_L_exec.cells, rm_L_exec.slots)
theorem wc_L_exec : Cond.codeWith y_L_exec method_4_code 5 (some .int) (am_tb H_L_exec) ∈ lw_good := w_2_27
set_option maxRecDepth 100000 in
theorem M_L_exec {l : Launch} (hl : l.stackTraces = false) : am_M am_cl0 am_rs0 am_zs0 l y_L_exec (Cond.codeWith y_L_exec method_4_code 5 (some .int) (am_tb H_L_exec) :: lw_good) rm_L_exec (F_L_exec) := am_methH hl (by decide +kernel) (by decide +kernel) (am_okx fun p e s m args below meth c D tc A n0 ad0 C hm => List.forall_mem_cons.mpr ⟨op_L_3_19 C hl ⟨by decide, by decide⟩, fun q hq => nomatch hq⟩)
  (by
    intro q hq
    match q, hq with
    | _, List.Mem.head _ => exact ⟨by decide, by decide, w_1_145, List.mem_of_getElem? (i := 0) rfl⟩
    | _, List.Mem.tail _ (List.Mem.head _) => exact ⟨by decide, by decide, w_1_146, List.mem_of_getElem? (i := 1) rfl⟩)
set_option maxRecDepth 10000 in
theorem op_L_3_23 (C : am_Cx p l R s m args meth c cc nL (c0 :: lw_good) RL D am_cl0 tc A am_rs0 am_zs0 hs ad0) (hl : l.stackTraces = false) (hR : rm_X1_exit.frames + 1 ≤ R.frames ∧ 8 + (3 + 11) + rm_X1_exit.locals ≤ R.locals) : am_op p l e R s m args below meth c D am_cl0 tc A nL n0 ad0 cc (3, 23) (am_fci (some 1) 3 F_X1_exit rm_X1_exit.cells rm_X1_exit.slots) := am_fci_ok C (am_rn_V C rfl (M_X1_exit hl) rfl (am_gd wc_X1_exit) (am_tl w_2_35) (am_tl w_2_36) (am_tl w_2_37) (am_tl w_1_1) (by decide +kernel) hR)
def X_L_exit : am_X := [((3, 23), (am_fci (some 1) 3 F_X1_exit rm_X1_exit.cells rm_X1_exit.slots))]
def H_L_exit : am_Hs := [(0, 10, 13, 13, 0), (0, 10, 17, 15, 1)]
def F_L_exit : List am_V → am_H → Option am_O := am_fn T_L_exit X_L_exit 5 (some .int) am_rs0 H_L_exit [] 400 (rm_L_exit.cells, rm_L_exit.slots)
theorem wc_L_exit : Cond.codeWith y_L_exit method_5_code 5 (some .int) (am_tb H_L_exit) ∈ lw_good := w_2_34
set_option maxRecDepth 100000 in
theorem M_L_exit {l : Launch} (hl : l.stackTraces = false) : am_M am_cl0 am_rs0 am_zs0 l y_L_exit (Cond.codeWith y_L_exit method_5_code 5 (some .int) (am_tb H_L_exit) :: lw_good) rm_L_exit (F_L_exit) := am_methH hl (by decide +kernel) (by decide +kernel) (am_okx fun p e s m args below meth c D tc A n0 ad0 C hm => List.forall_mem_cons.mpr ⟨op_L_3_23 C hl ⟨by decide, by decide⟩, fun q hq => nomatch hq⟩)
  (by
    intro q hq
    match q, hq with
    | _, List.Mem.head _ => exact ⟨by decide, by decide, w_1_145, List.mem_of_getElem? (i := 0) rfl⟩
    | _, List.Mem.tail _ (List.Mem.head _) => exact ⟨by decide, by decide, w_1_146, List.mem_of_getElem? (i := 1) rfl⟩)
set_option maxRecDepth 10000 in
theorem op_L_3_26 (C : am_Cx p l R s m args meth c cc nL (c0 :: lw_good) RL D am_cl0 tc A am_rs0 am_zs0 hs ad0) (hl : l.stackTraces = false) (hR : rm_X1_await.frames + 1 ≤ R.frames ∧ 8 + (3 + 11) + rm_X1_await.locals ≤ R.locals) : am_op p l e R s m args below meth c D am_cl0 tc A nL n0 ad0 cc (3, 26) (am_fci (some 1) 2 F_X1_await rm_X1_await.cells rm_X1_await.slots) := am_fci_ok C (am_rn_V C rfl (M_X1_await hl) rfl (am_gd wc_X1_await) (am_tl w_2_47) (am_tl w_2_48) (am_tl w_2_49) (am_tl w_1_1) (by decide +kernel) hR)
def X_L_await : am_X := [((3, 26), (am_fci (some 1) 2 F_X1_await rm_X1_await.cells rm_X1_await.slots))]
def H_L_await : am_Hs := [(0, 9, 12, 13, 0), (0, 9, 15, 15, 1), (0, 9, 18, 17, 2), (0, 9, 21, 29, 3)]
def F_L_await : List am_V → am_H → Option am_O := am_fn T_L_await X_L_await 4 (some .int) am_rs0 H_L_await [] 400 (rm_L_await.cells, rm_L_await.slots)
theorem wc_L_await : Cond.codeWith y_L_await method_6_code 4 (some .int) (am_tb H_L_await) ∈ lw_good := w_2_45
set_option maxRecDepth 100000 in
theorem M_L_await {l : Launch} (hl : l.stackTraces = false) : am_M am_cl0 am_rs0 am_zs0 l y_L_await (Cond.codeWith y_L_await method_6_code 4 (some .int) (am_tb H_L_await) :: lw_good) rm_L_await (F_L_await) := am_methH hl (by decide +kernel) (by decide +kernel) (am_okx fun p e s m args below meth c D tc A n0 ad0 C hm => List.forall_mem_cons.mpr ⟨op_L_3_26 C hl ⟨by decide, by decide⟩, fun q hq => nomatch hq⟩)
  (by
    intro q hq
    match q, hq with
    | _, List.Mem.head _ => exact ⟨by decide, by decide, w_1_145, List.mem_of_getElem? (i := 0) rfl⟩
    | _, List.Mem.tail _ (List.Mem.head _) => exact ⟨by decide, by decide, w_1_146, List.mem_of_getElem? (i := 1) rfl⟩
    | _, List.Mem.tail _ (List.Mem.tail _ (List.Mem.head _)) => exact ⟨by decide, by decide, w_1_147, List.mem_of_getElem? (i := 2) rfl⟩
    | _, List.Mem.tail _ (List.Mem.tail _ (List.Mem.tail _ (List.Mem.head _))) => exact ⟨by decide, by decide, w_2_46, List.mem_of_getElem? (i := 3) rfl⟩)
set_option maxRecDepth 10000 in
theorem op_L_3_31 (C : am_Cx p l R s m args meth c cc nL (c0 :: lw_good) RL D am_cl0 tc A am_rs0 am_zs0 hs ad0) (hl : l.stackTraces = false) (hR : rm_X1_grow.frames + 1 ≤ R.frames ∧ 8 + (5 + 11) + rm_X1_grow.locals ≤ R.locals) : am_op p l e R s m args below meth c D am_cl0 tc A nL n0 ad0 cc (3, 31) (am_fci (some 1) 3 F_X1_grow rm_X1_grow.cells rm_X1_grow.slots) := am_fci_ok C (am_rn_V C rfl (M_X1_grow hl) rfl (am_gd wc_X1_grow) (am_tl w_2_77) (am_tl w_2_78) (am_tl w_2_79) (am_tl w_1_1) (by decide +kernel) hR)
def X_L_grow : am_X := [((3, 31), (am_fci (some 1) 3 F_X1_grow rm_X1_grow.cells rm_X1_grow.slots))]
def H_L_grow : am_Hs := [(0, 10, 13, 13, 0), (0, 10, 17, 15, 1), (0, 10, 21, 17, 2)]
def F_L_grow : List am_V → am_H → Option am_O := am_fn T_L_grow X_L_grow 5 (some .int) am_rs0 H_L_grow [] 400 (rm_L_grow.cells, rm_L_grow.slots)
theorem wc_L_grow : Cond.codeWith y_L_grow method_7_code 5 (some .int) (am_tb H_L_grow) ∈ lw_good := w_2_76
set_option maxRecDepth 100000 in
theorem M_L_grow {l : Launch} (hl : l.stackTraces = false) : am_M am_cl0 am_rs0 am_zs0 l y_L_grow (Cond.codeWith y_L_grow method_7_code 5 (some .int) (am_tb H_L_grow) :: lw_good) rm_L_grow (F_L_grow) := am_methH hl (by decide +kernel) (by decide +kernel) (am_okx fun p e s m args below meth c D tc A n0 ad0 C hm => List.forall_mem_cons.mpr ⟨op_L_3_31 C hl ⟨by decide, by decide⟩, fun q hq => nomatch hq⟩)
  (by
    intro q hq
    match q, hq with
    | _, List.Mem.head _ => exact ⟨by decide, by decide, w_1_145, List.mem_of_getElem? (i := 0) rfl⟩
    | _, List.Mem.tail _ (List.Mem.head _) => exact ⟨by decide, by decide, w_1_146, List.mem_of_getElem? (i := 1) rfl⟩
    | _, List.Mem.tail _ (List.Mem.tail _ (List.Mem.head _)) => exact ⟨by decide, by decide, w_1_147, List.mem_of_getElem? (i := 2) rfl⟩)
set_option maxRecDepth 10000 in
theorem op_L_3_34 (C : am_Cx p l R s m args meth c cc nL (c0 :: lw_good) RL D am_cl0 tc A am_rs0 am_zs0 hs ad0) (hl : l.stackTraces = false) (hR : rm_X1_read.frames + 1 ≤ R.frames ∧ 8 + (4 + 11) + rm_X1_read.locals ≤ R.locals) : am_op p l e R s m args below meth c D am_cl0 tc A nL n0 ad0 cc (3, 34) (am_fci (some 1) 3 F_X1_read rm_X1_read.cells rm_X1_read.slots) := am_fci_ok C (am_rn_V C rfl (M_X1_read hl) rfl (am_gd wc_X1_read) (am_tl w_2_85) (am_tl w_2_86) (am_tl w_2_87) (am_tl w_1_1) (by decide +kernel) hR)
def X_L_read : am_X := [((3, 34), (am_fci (some 1) 3 F_X1_read rm_X1_read.cells rm_X1_read.slots))]
def H_L_read : am_Hs := [(0, 10, 13, 13, 0), (0, 10, 17, 15, 1), (0, 10, 21, 37, 4), (0, 10, 25, 29, 3)]
def F_L_read : List am_V → am_H → Option am_O := am_fn T_L_read X_L_read 5 (some .int) am_rs0 H_L_read [] 400 (rm_L_read.cells, rm_L_read.slots)
theorem wc_L_read : Cond.codeWith y_L_read method_8_code 5 (some .int) (am_tb H_L_read) ∈ lw_good := w_2_83
set_option maxRecDepth 100000 in
theorem M_L_read {l : Launch} (hl : l.stackTraces = false) : am_M am_cl0 am_rs0 am_zs0 l y_L_read (Cond.codeWith y_L_read method_8_code 5 (some .int) (am_tb H_L_read) :: lw_good) rm_L_read (F_L_read) := am_methH hl (by decide +kernel) (by decide +kernel) (am_okx fun p e s m args below meth c D tc A n0 ad0 C hm => List.forall_mem_cons.mpr ⟨op_L_3_34 C hl ⟨by decide, by decide⟩, fun q hq => nomatch hq⟩)
  (by
    intro q hq
    match q, hq with
    | _, List.Mem.head _ => exact ⟨by decide, by decide, w_1_145, List.mem_of_getElem? (i := 0) rfl⟩
    | _, List.Mem.tail _ (List.Mem.head _) => exact ⟨by decide, by decide, w_1_146, List.mem_of_getElem? (i := 1) rfl⟩
    | _, List.Mem.tail _ (List.Mem.tail _ (List.Mem.head _)) => exact ⟨by decide, by decide, w_2_84, List.mem_of_getElem? (i := 4) rfl⟩
    | _, List.Mem.tail _ (List.Mem.tail _ (List.Mem.tail _ (List.Mem.head _))) => exact ⟨by decide, by decide, w_2_46, List.mem_of_getElem? (i := 3) rfl⟩)
set_option maxRecDepth 10000 in
theorem op_L_3_39 (C : am_Cx p l R s m args meth c cc nL (c0 :: lw_good) RL D am_cl0 tc A am_rs0 am_zs0 hs ad0) (hl : l.stackTraces = false) (hR : rm_X1_write.frames + 1 ≤ R.frames ∧ 8 + (7 + 11) + rm_X1_write.locals ≤ R.locals) : am_op p l e R s m args below meth c D am_cl0 tc A nL n0 ad0 cc (3, 39) (am_fci (some 1) 4 F_X1_write rm_X1_write.cells rm_X1_write.slots) := am_fci_ok C (am_rn_V C rfl (M_X1_write hl) rfl (am_gd wc_X1_write) (am_tl w_2_157) (am_tl w_2_158) (am_tl w_2_159) (am_tl w_1_1) (by decide +kernel) hR)
def X_L_write : am_X := [((3, 39), (am_fci (some 1) 4 F_X1_write rm_X1_write.cells rm_X1_write.slots))]
def H_L_write : am_Hs := [(0, 12, 15, 13, 0), (0, 12, 19, 15, 1), (0, 12, 23, 37, 4), (0, 12, 27, 17, 2), (0, 12, 31, 29, 3)]
def F_L_write : List am_V → am_H → Option am_O := am_fn T_L_write X_L_write 6 (some .int) am_rs0 H_L_write [] 400 (rm_L_write.cells, rm_L_write.slots)
theorem wc_L_write : Cond.codeWith y_L_write method_9_code 6 (some .int) (am_tb H_L_write) ∈ lw_good := w_2_156
set_option maxRecDepth 100000 in
theorem M_L_write {l : Launch} (hl : l.stackTraces = false) : am_M am_cl0 am_rs0 am_zs0 l y_L_write (Cond.codeWith y_L_write method_9_code 6 (some .int) (am_tb H_L_write) :: lw_good) rm_L_write (F_L_write) := am_methH hl (by decide +kernel) (by decide +kernel) (am_okx fun p e s m args below meth c D tc A n0 ad0 C hm => List.forall_mem_cons.mpr ⟨op_L_3_39 C hl ⟨by decide, by decide⟩, fun q hq => nomatch hq⟩)
  (by
    intro q hq
    match q, hq with
    | _, List.Mem.head _ => exact ⟨by decide, by decide, w_1_145, List.mem_of_getElem? (i := 0) rfl⟩
    | _, List.Mem.tail _ (List.Mem.head _) => exact ⟨by decide, by decide, w_1_146, List.mem_of_getElem? (i := 1) rfl⟩
    | _, List.Mem.tail _ (List.Mem.tail _ (List.Mem.head _)) => exact ⟨by decide, by decide, w_2_84, List.mem_of_getElem? (i := 4) rfl⟩
    | _, List.Mem.tail _ (List.Mem.tail _ (List.Mem.tail _ (List.Mem.head _))) => exact ⟨by decide, by decide, w_1_147, List.mem_of_getElem? (i := 2) rfl⟩
    | _, List.Mem.tail _ (List.Mem.tail _ (List.Mem.tail _ (List.Mem.tail _ (List.Mem.head _)))) => exact ⟨by decide, by decide, w_2_46, List.mem_of_getElem? (i := 3) rfl⟩)
set_option maxRecDepth 10000 in
theorem op_L_3_43 (C : am_Cx p l R s m args meth c cc nL (c0 :: lw_good) RL D am_cl0 tc A am_rs0 am_zs0 hs ad0) (hl : l.stackTraces = false) (hR : rm_X1_sweep.frames + 1 ≤ R.frames ∧ 8 + (4 + 11) + rm_X1_sweep.locals ≤ R.locals) : am_op p l e R s m args below meth c D am_cl0 tc A nL n0 ad0 cc (3, 43) (am_fci (some 1) 2 F_X1_sweep rm_X1_sweep.cells rm_X1_sweep.slots) := am_fci_ok C (am_rn_V C rfl (M_X1_sweep hl) rfl (am_gd wc_X1_sweep) (am_tl w_2_178) (am_tl w_2_179) (am_tl w_2_180) (am_tl w_1_1) (by decide +kernel) hR)
def X_L_sweep : am_X := [((3, 43), (am_fci (some 1) 2 F_X1_sweep rm_X1_sweep.cells rm_X1_sweep.slots))]
def H_L_sweep : am_Hs := [(0, 9, 12, 13, 0)]
def F_L_sweep : List am_V → am_H → Option am_O := am_fn T_L_sweep X_L_sweep 4 (some .int) am_rs0 H_L_sweep [] 400 (rm_L_sweep.cells, rm_L_sweep.slots)
theorem wc_L_sweep : Cond.codeWith y_L_sweep method_10_code 4 (some .int) (am_tb H_L_sweep) ∈ lw_good := w_2_177
set_option maxRecDepth 100000 in
theorem M_L_sweep {l : Launch} (hl : l.stackTraces = false) : am_M am_cl0 am_rs0 am_zs0 l y_L_sweep (Cond.codeWith y_L_sweep method_10_code 4 (some .int) (am_tb H_L_sweep) :: lw_good) rm_L_sweep (F_L_sweep) := am_methH hl (by decide +kernel) (by decide +kernel) (am_okx fun p e s m args below meth c D tc A n0 ad0 C hm => List.forall_mem_cons.mpr ⟨op_L_3_43 C hl ⟨by decide, by decide⟩, fun q hq => nomatch hq⟩)
  (by
    intro q hq
    match q, hq with
    | _, List.Mem.head _ => exact ⟨by decide, by decide, w_1_145, List.mem_of_getElem? (i := 0) rfl⟩)
set_option maxRecDepth 10000 in
theorem op_L_3_46 (C : am_Cx p l R s m args meth c cc nL (c0 :: lw_good) RL D am_cl0 tc A am_rs0 am_zs0 hs ad0) (hl : l.stackTraces = false) (hR : rm_X1_swapOut.frames + 1 ≤ R.frames ∧ 8 + (5 + 11) + rm_X1_swapOut.locals ≤ R.locals) : am_op p l e R s m args below meth c D am_cl0 tc A nL n0 ad0 cc (3, 46) (am_fci (some 1) 2 F_X1_swapOut rm_X1_swapOut.cells rm_X1_swapOut.slots) := am_fci_ok C (am_rn_V C rfl (M_X1_swapOut hl) rfl (am_gd wc_X1_swapOut) (am_tl w_2_186) (am_tl w_2_187) (am_tl w_2_188) (am_tl w_1_1) (by decide +kernel) hR)
def X_L_swapOut : am_X := [((3, 46), (am_fci (some 1) 2 F_X1_swapOut rm_X1_swapOut.cells rm_X1_swapOut.slots))]
def H_L_swapOut : am_Hs := [(0, 9, 12, 13, 0), (0, 9, 15, 15, 1)]
def F_L_swapOut : List am_V → am_H → Option am_O := am_fn T_L_swapOut X_L_swapOut 4 (some .int) am_rs0 H_L_swapOut [] 400 (rm_L_swapOut.cells, rm_L_swapOut.slots)
theorem wc_L_swapOut : Cond.codeWith y_L_swapOut method_11_code 4 (some .int) (am_tb H_L_swapOut) ∈ lw_good := w_2_185
set_option maxRecDepth 100000 in
theorem M_L_swapOut {l : Launch} (hl : l.stackTraces = false) : am_M am_cl0 am_rs0 am_zs0 l y_L_swapOut (Cond.codeWith y_L_swapOut method_11_code 4 (some .int) (am_tb H_L_swapOut) :: lw_good) rm_L_swapOut (F_L_swapOut) := am_methH hl (by decide +kernel) (by decide +kernel) (am_okx fun p e s m args below meth c D tc A n0 ad0 C hm => List.forall_mem_cons.mpr ⟨op_L_3_46 C hl ⟨by decide, by decide⟩, fun q hq => nomatch hq⟩)
  (by
    intro q hq
    match q, hq with
    | _, List.Mem.head _ => exact ⟨by decide, by decide, w_1_145, List.mem_of_getElem? (i := 0) rfl⟩
    | _, List.Mem.tail _ (List.Mem.head _) => exact ⟨by decide, by decide, w_1_146, List.mem_of_getElem? (i := 1) rfl⟩)
set_option maxRecDepth 10000 in
theorem op_L_3_49 (C : am_Cx p l R s m args meth c cc nL (c0 :: lw_good) RL D am_cl0 tc A am_rs0 am_zs0 hs ad0) (hl : l.stackTraces = false) (hR : rm_X1_where.frames + 1 ≤ R.frames ∧ 8 + (3 + 11) + rm_X1_where.locals ≤ R.locals) : am_op p l e R s m args below meth c D am_cl0 tc A nL n0 ad0 cc (3, 49) (am_fci (some 1) 3 F_X1_where rm_X1_where.cells rm_X1_where.slots) := am_fci_ok C (am_rn_V C rfl (M_X1_where hl) rfl (am_gd wc_X1_where) (am_tl w_2_197) (am_tl w_2_198) (am_tl w_2_199) (am_tl w_1_1) (by decide +kernel) hR)
def X_L_where : am_X := [((3, 49), (am_fci (some 1) 3 F_X1_where rm_X1_where.cells rm_X1_where.slots))]
def H_L_where : am_Hs := [(0, 10, 13, 13, 0), (0, 10, 17, 15, 1), (0, 10, 21, 37, 4)]
def F_L_where : List am_V → am_H → Option am_O := am_fn T_L_where X_L_where 5 (some .int) am_rs0 H_L_where [] 400 (rm_L_where.cells, rm_L_where.slots)
theorem wc_L_where : Cond.codeWith y_L_where method_12_code 5 (some .int) (am_tb H_L_where) ∈ lw_good := w_2_196
set_option maxRecDepth 100000 in
theorem M_L_where {l : Launch} (hl : l.stackTraces = false) : am_M am_cl0 am_rs0 am_zs0 l y_L_where (Cond.codeWith y_L_where method_12_code 5 (some .int) (am_tb H_L_where) :: lw_good) rm_L_where (F_L_where) := am_methH hl (by decide +kernel) (by decide +kernel) (am_okx fun p e s m args below meth c D tc A n0 ad0 C hm => List.forall_mem_cons.mpr ⟨op_L_3_49 C hl ⟨by decide, by decide⟩, fun q hq => nomatch hq⟩)
  (by
    intro q hq
    match q, hq with
    | _, List.Mem.head _ => exact ⟨by decide, by decide, w_1_145, List.mem_of_getElem? (i := 0) rfl⟩
    | _, List.Mem.tail _ (List.Mem.head _) => exact ⟨by decide, by decide, w_1_146, List.mem_of_getElem? (i := 1) rfl⟩
    | _, List.Mem.tail _ (List.Mem.tail _ (List.Mem.head _)) => exact ⟨by decide, by decide, w_2_84, List.mem_of_getElem? (i := 4) rfl⟩)
set_option maxRecDepth 10000 in
theorem op_L_3_52 (C : am_Cx p l R s m args meth c cc nL (c0 :: lw_good) RL D am_cl0 tc A am_rs0 am_zs0 hs ad0) (hl : l.stackTraces = false) (hR : rm_X1_sharers.frames + 1 ≤ R.frames ∧ 8 + (3 + 11) + rm_X1_sharers.locals ≤ R.locals) : am_op p l e R s m args below meth c D am_cl0 tc A nL n0 ad0 cc (3, 52) (am_fci (some 1) 3 F_X1_sharers rm_X1_sharers.cells rm_X1_sharers.slots) := am_fci_ok C (am_rn_V C rfl (M_X1_sharers hl) rfl (am_gd wc_X1_sharers) (am_tl w_2_208) (am_tl w_2_209) (am_tl w_2_210) (am_tl w_1_1) (by decide +kernel) hR)
def X_L_sharers : am_X := [((3, 52), (am_fci (some 1) 3 F_X1_sharers rm_X1_sharers.cells rm_X1_sharers.slots))]
def H_L_sharers : am_Hs := [(0, 10, 13, 13, 0), (0, 10, 17, 15, 1), (0, 10, 21, 37, 4)]
def F_L_sharers : List am_V → am_H → Option am_O := am_fn T_L_sharers X_L_sharers 5 (some .int) am_rs0 H_L_sharers [] 400 (rm_L_sharers.cells, rm_L_sharers.slots)
theorem wc_L_sharers : Cond.codeWith y_L_sharers method_13_code 5 (some .int) (am_tb H_L_sharers) ∈ lw_good := w_2_207
set_option maxRecDepth 100000 in
theorem M_L_sharers {l : Launch} (hl : l.stackTraces = false) : am_M am_cl0 am_rs0 am_zs0 l y_L_sharers (Cond.codeWith y_L_sharers method_13_code 5 (some .int) (am_tb H_L_sharers) :: lw_good) rm_L_sharers (F_L_sharers) := am_methH hl (by decide +kernel) (by decide +kernel) (am_okx fun p e s m args below meth c D tc A n0 ad0 C hm => List.forall_mem_cons.mpr ⟨op_L_3_52 C hl ⟨by decide, by decide⟩, fun q hq => nomatch hq⟩)
  (by
    intro q hq
    match q, hq with
    | _, List.Mem.head _ => exact ⟨by decide, by decide, w_1_145, List.mem_of_getElem? (i := 0) rfl⟩
    | _, List.Mem.tail _ (List.Mem.head _) => exact ⟨by decide, by decide, w_1_146, List.mem_of_getElem? (i := 1) rfl⟩
    | _, List.Mem.tail _ (List.Mem.tail _ (List.Mem.head _)) => exact ⟨by decide, by decide, w_2_84, List.mem_of_getElem? (i := 4) rfl⟩)
set_option maxRecDepth 10000 in
theorem op_L_3_55 (C : am_Cx p l R s m args meth c cc nL (c0 :: lw_good) RL D am_cl0 tc A am_rs0 am_zs0 hs ad0) (hl : l.stackTraces = false) (hR : rm_X1_fact.frames + 1 ≤ R.frames ∧ 8 + (3 + 11) + rm_X1_fact.locals ≤ R.locals) : am_op p l e R s m args below meth c D am_cl0 tc A nL n0 ad0 cc (3, 55) (am_fci (some 1) 3 F_X1_fact rm_X1_fact.cells rm_X1_fact.slots) := am_fci_ok C (am_rn_V C rfl (M_X1_fact hl) rfl (am_gd wc_X1_fact) (am_tl w_2_219) (am_tl w_2_220) (am_tl w_2_221) (am_tl w_1_1) (by decide +kernel) hR)
def X_L_fact : am_X := [((3, 55), (am_fci (some 1) 3 F_X1_fact rm_X1_fact.cells rm_X1_fact.slots))]
def H_L_fact : am_Hs := [(0, 10, 13, 13, 0)]
def F_L_fact : List am_V → am_H → Option am_O := am_fn T_L_fact X_L_fact 5 (some .int) am_rs0 H_L_fact [] 400 (rm_L_fact.cells, rm_L_fact.slots)
theorem wc_L_fact : Cond.codeWith y_L_fact method_14_code 5 (some .int) (am_tb H_L_fact) ∈ lw_good := w_2_218
set_option maxRecDepth 100000 in
theorem M_L_fact {l : Launch} (hl : l.stackTraces = false) : am_M am_cl0 am_rs0 am_zs0 l y_L_fact (Cond.codeWith y_L_fact method_14_code 5 (some .int) (am_tb H_L_fact) :: lw_good) rm_L_fact (F_L_fact) := am_methH hl (by decide +kernel) (by decide +kernel) (am_okx fun p e s m args below meth c D tc A n0 ad0 C hm => List.forall_mem_cons.mpr ⟨op_L_3_55 C hl ⟨by decide, by decide⟩, fun q hq => nomatch hq⟩)
  (by
    intro q hq
    match q, hq with
    | _, List.Mem.head _ => exact ⟨by decide, by decide, w_1_145, List.mem_of_getElem? (i := 0) rfl⟩)
set_option maxRecDepth 10000 in
theorem op_L_3_58 (C : am_Cx p l R s m args meth c cc nL (c0 :: lw_good) RL D am_cl0 tc A am_rs0 am_zs0 hs ad0) (hl : l.stackTraces = false) (hR : rm_X1_count.frames + 1 ≤ R.frames ∧ 8 + (2 + 11) + rm_X1_count.locals ≤ R.locals) : am_op p l e R s m args below meth c D am_cl0 tc A nL n0 ad0 cc (3, 58) (am_fci (some 1) 2 F_X1_count rm_X1_count.cells rm_X1_count.slots) := am_fci_ok C (am_rn_V C rfl (M_X1_count hl) rfl (am_gd wc_X1_count) (am_tl w_2_226) (am_tl w_2_227) (am_tl w_2_228) (am_tl w_1_1) (by decide +kernel) hR)
def X_L_count : am_X := [((3, 58), (am_fci (some 1) 2 F_X1_count rm_X1_count.cells rm_X1_count.slots))]
def H_L_count : am_Hs := [(0, 9, 12, 13, 0)]
def F_L_count : List am_V → am_H → Option am_O := am_fn T_L_count X_L_count 4 (some .int) am_rs0 H_L_count [] 400 (rm_L_count.cells, rm_L_count.slots)
theorem wc_L_count : Cond.codeWith y_L_count method_15_code 4 (some .int) (am_tb H_L_count) ∈ lw_good := w_2_225
set_option maxRecDepth 100000 in
theorem M_L_count {l : Launch} (hl : l.stackTraces = false) : am_M am_cl0 am_rs0 am_zs0 l y_L_count (Cond.codeWith y_L_count method_15_code 4 (some .int) (am_tb H_L_count) :: lw_good) rm_L_count (F_L_count) := am_methH hl (by decide +kernel) (by decide +kernel) (am_okx fun p e s m args below meth c D tc A n0 ad0 C hm => List.forall_mem_cons.mpr ⟨op_L_3_58 C hl ⟨by decide, by decide⟩, fun q hq => nomatch hq⟩)
  (by
    intro q hq
    match q, hq with
    | _, List.Mem.head _ => exact ⟨by decide, by decide, w_1_145, List.mem_of_getElem? (i := 0) rfl⟩)
end AMP
