section
-- ===== PART A: goes FIRST, ahead of the names: the tables' words, and 'selects' of the private methods out of them =====
/-- a private method of a class that the tables say can be made, by its rows of tables_1 -/
def lw_okq (q : MethodName × Nat) : Prop := (q.1.cls ≠ "java/lang/invoke/MethodHandle" ∧ q.1.cls ≠ "java/lang/invoke/VarHandle") ∧ Cond.instantiable q.1.cls q.2 ∈ tables_1 ∧ Cond.privateMethod q.1 ∈ tables_1 ∧ Cond.instanceMethod q.1 ∈ tables_1
theorem lw_p0 : lw_okq (⟨"PagingKernel", "startProgram", "(II)V"⟩, 8) := ⟨⟨by decide +kernel, by decide +kernel⟩, List.mem_of_getElem? (i := 16) (by decide +kernel), List.mem_of_getElem? (i := 82) (by decide +kernel), List.mem_of_getElem? (i := 83) (by decide +kernel)⟩
theorem lw_p1 : lw_okq (⟨"PagingKernel", "leavePages", "(III)V"⟩, 8) := ⟨⟨by decide +kernel, by decide +kernel⟩, List.mem_of_getElem? (i := 16) (by decide +kernel), List.mem_of_getElem? (i := 93) (by decide +kernel), List.mem_of_getElem? (i := 94) (by decide +kernel)⟩
theorem lw_p2 : lw_okq (⟨"PagingKernel$Memory", "vacate", "(I)V"⟩, 10) := ⟨⟨by decide +kernel, by decide +kernel⟩, List.mem_of_getElem? (i := 26) (by decide +kernel), List.mem_of_getElem? (i := 101) (by decide +kernel), List.mem_of_getElem? (i := 102) (by decide +kernel)⟩
theorem lw_p3 : lw_okq (⟨"PagingKernel$Memory", "isIn", "(I)Z"⟩, 10) := ⟨⟨by decide +kernel, by decide +kernel⟩, List.mem_of_getElem? (i := 26) (by decide +kernel), List.mem_of_getElem? (i := 105) (by decide +kernel), List.mem_of_getElem? (i := 106) (by decide +kernel)⟩
theorem lw_p4 : lw_okq (⟨"PagingKernel", "addPages", "(III)V"⟩, 8) := ⟨⟨by decide +kernel, by decide +kernel⟩, List.mem_of_getElem? (i := 16) (by decide +kernel), List.mem_of_getElem? (i := 111) (by decide +kernel), List.mem_of_getElem? (i := 112) (by decide +kernel)⟩
theorem lw_p5 : lw_okq (⟨"java/lang/Throwable", "fillInStackTrace", "(I)Ljava/lang/Throwable;"⟩, 6) := ⟨⟨by decide +kernel, by decide +kernel⟩, List.mem_of_getElem? (i := 203) (by decide +kernel), List.mem_of_getElem? (i := 201) (by decide +kernel), List.mem_of_getElem? (i := 202) (by decide +kernel)⟩
theorem lw_p6 : lw_okq (⟨"PagingKernel", "checkRunning", "(I)V"⟩, 8) := ⟨⟨by decide +kernel, by decide +kernel⟩, List.mem_of_getElem? (i := 16) (by decide +kernel), List.mem_of_getElem? (i := 228) (by decide +kernel), List.mem_of_getElem? (i := 229) (by decide +kernel)⟩
theorem lw_p7 : lw_okq (⟨"PagingKernel", "leastFreeProcess", "()I"⟩, 8) := ⟨⟨by decide +kernel, by decide +kernel⟩, List.mem_of_getElem? (i := 16) (by decide +kernel), List.mem_of_getElem? (i := 247) (by decide +kernel), List.mem_of_getElem? (i := 248) (by decide +kernel)⟩
theorem lw_p8 : lw_okq (⟨"PagingKernel", "sharePages", "(II)V"⟩, 8) := ⟨⟨by decide +kernel, by decide +kernel⟩, List.mem_of_getElem? (i := 16) (by decide +kernel), List.mem_of_getElem? (i := 266) (by decide +kernel), List.mem_of_getElem? (i := 267) (by decide +kernel)⟩
theorem lw_p9 : lw_okq (⟨"PagingKernel", "orphansToFirst", "(I)I"⟩, 8) := ⟨⟨by decide +kernel, by decide +kernel⟩, List.mem_of_getElem? (i := 16) (by decide +kernel), List.mem_of_getElem? (i := 284) (by decide +kernel), List.mem_of_getElem? (i := 285) (by decide +kernel)⟩
theorem lw_p10 : lw_okq (⟨"PagingKernel", "isParent", "(I)Z"⟩, 8) := ⟨⟨by decide +kernel, by decide +kernel⟩, List.mem_of_getElem? (i := 16) (by decide +kernel), List.mem_of_getElem? (i := 296) (by decide +kernel), List.mem_of_getElem? (i := 297) (by decide +kernel)⟩
theorem lw_p11 : lw_okq (⟨"PagingKernel", "leastDeadChild", "(I)I"⟩, 8) := ⟨⟨by decide +kernel, by decide +kernel⟩, List.mem_of_getElem? (i := 16) (by decide +kernel), List.mem_of_getElem? (i := 300) (by decide +kernel), List.mem_of_getElem? (i := 301) (by decide +kernel)⟩
theorem lw_p12 : lw_okq (⟨"PagingKernel", "checkAddress", "(II)V"⟩, 8) := ⟨⟨by decide +kernel, by decide +kernel⟩, List.mem_of_getElem? (i := 16) (by decide +kernel), List.mem_of_getElem? (i := 334) (by decide +kernel), List.mem_of_getElem? (i := 335) (by decide +kernel)⟩
theorem lw_p13 : lw_okq (⟨"PagingKernel", "growStackTo", "(II)V"⟩, 8) := ⟨⟨by decide +kernel, by decide +kernel⟩, List.mem_of_getElem? (i := 16) (by decide +kernel), List.mem_of_getElem? (i := 338) (by decide +kernel), List.mem_of_getElem? (i := 339) (by decide +kernel)⟩
theorem lw_p14 : lw_okq (⟨"PagingKernel", "pageThere", "(II)I"⟩, 8) := ⟨⟨by decide +kernel, by decide +kernel⟩, List.mem_of_getElem? (i := 16) (by decide +kernel), List.mem_of_getElem? (i := 342) (by decide +kernel), List.mem_of_getElem? (i := 343) (by decide +kernel)⟩
theorem lw_p15 : lw_okq (⟨"PagingKernel$Memory", "getFrame", "()I"⟩, 10) := ⟨⟨by decide +kernel, by decide +kernel⟩, List.mem_of_getElem? (i := 26) (by decide +kernel), List.mem_of_getElem? (i := 365) (by decide +kernel), List.mem_of_getElem? (i := 366) (by decide +kernel)⟩
def lw_privs_1 : List (MethodName × Nat) := [(⟨"PagingKernel", "startProgram", "(II)V"⟩, 8), (⟨"PagingKernel", "leavePages", "(III)V"⟩, 8), (⟨"PagingKernel$Memory", "vacate", "(I)V"⟩, 10), (⟨"PagingKernel$Memory", "isIn", "(I)Z"⟩, 10), (⟨"PagingKernel", "addPages", "(III)V"⟩, 8), (⟨"java/lang/Throwable", "fillInStackTrace", "(I)Ljava/lang/Throwable;"⟩, 6), (⟨"PagingKernel", "checkRunning", "(I)V"⟩, 8), (⟨"PagingKernel", "leastFreeProcess", "()I"⟩, 8), (⟨"PagingKernel", "sharePages", "(II)V"⟩, 8), (⟨"PagingKernel", "orphansToFirst", "(I)I"⟩, 8), (⟨"PagingKernel", "isParent", "(I)Z"⟩, 8), (⟨"PagingKernel", "leastDeadChild", "(I)I"⟩, 8), (⟨"PagingKernel", "checkAddress", "(II)V"⟩, 8), (⟨"PagingKernel", "growStackTo", "(II)V"⟩, 8), (⟨"PagingKernel", "pageThere", "(II)I"⟩, 8), (⟨"PagingKernel$Memory", "getFrame", "()I"⟩, 10)]
theorem lw_r1 : ∀ q ∈ lw_privs_1, lw_okq q := List.forall_mem_cons.mpr ⟨lw_p0, List.forall_mem_cons.mpr ⟨lw_p1, List.forall_mem_cons.mpr ⟨lw_p2, List.forall_mem_cons.mpr ⟨lw_p3, List.forall_mem_cons.mpr ⟨lw_p4, List.forall_mem_cons.mpr ⟨lw_p5, List.forall_mem_cons.mpr ⟨lw_p6, List.forall_mem_cons.mpr ⟨lw_p7, List.forall_mem_cons.mpr ⟨lw_p8, List.forall_mem_cons.mpr ⟨lw_p9, List.forall_mem_cons.mpr ⟨lw_p10, List.forall_mem_cons.mpr ⟨lw_p11, List.forall_mem_cons.mpr ⟨lw_p12, List.forall_mem_cons.mpr ⟨lw_p13, List.forall_mem_cons.mpr ⟨lw_p14, List.forall_mem_cons.mpr ⟨lw_p15, fun _ h => absurd h List.not_mem_nil⟩⟩⟩⟩⟩⟩⟩⟩⟩⟩⟩⟩⟩⟩⟩⟩
theorem lw_p16 : lw_okq (⟨"PagingKernel$Memory", "canGo", "(I)Z"⟩, 10) := ⟨⟨by decide +kernel, by decide +kernel⟩, List.mem_of_getElem? (i := 26) (by decide +kernel), List.mem_of_getElem? (i := 376) (by decide +kernel), List.mem_of_getElem? (i := 377) (by decide +kernel)⟩
theorem lw_p17 : lw_okq (⟨"PagingKernel$Memory", "sendOut", "(I)V"⟩, 10) := ⟨⟨by decide +kernel, by decide +kernel⟩, List.mem_of_getElem? (i := 26) (by decide +kernel), List.mem_of_getElem? (i := 383) (by decide +kernel), List.mem_of_getElem? (i := 384) (by decide +kernel)⟩
theorem lw_p18 : lw_okq (⟨"PagingKernel$Memory", "settle", "(II)V"⟩, 10) := ⟨⟨by decide +kernel, by decide +kernel⟩, List.mem_of_getElem? (i := 26) (by decide +kernel), List.mem_of_getElem? (i := 387) (by decide +kernel), List.mem_of_getElem? (i := 388) (by decide +kernel)⟩
theorem lw_p19 : lw_okq (⟨"PagingKernelModel", "begin", "(II)V"⟩, 20) := ⟨⟨by decide +kernel, by decide +kernel⟩, List.mem_of_getElem? (i := 486) (by decide +kernel), List.mem_of_getElem? (i := 492) (by decide +kernel), List.mem_of_getElem? (i := 493) (by decide +kernel)⟩
theorem lw_p20 : lw_okq (⟨"PagingKernelModel", "newPage", "()I"⟩, 20) := ⟨⟨by decide +kernel, by decide +kernel⟩, List.mem_of_getElem? (i := 486) (by decide +kernel), List.mem_of_getElem? (i := 496) (by decide +kernel), List.mem_of_getElem? (i := 497) (by decide +kernel)⟩
theorem lw_p21 : lw_okq (⟨"PagingKernelModel", "out", "(II)Z"⟩, 20) := ⟨⟨by decide +kernel, by decide +kernel⟩, List.mem_of_getElem? (i := 486) (by decide +kernel), List.mem_of_getElem? (i := 569) (by decide +kernel), List.mem_of_getElem? (i := 570) (by decide +kernel)⟩
theorem lw_p22 : lw_okq (⟨"PagingKernelModel", "fail", "(I)I"⟩, 20) := ⟨⟨by decide +kernel, by decide +kernel⟩, List.mem_of_getElem? (i := 486) (by decide +kernel), List.mem_of_getElem? (i := 573) (by decide +kernel), List.mem_of_getElem? (i := 574) (by decide +kernel)⟩
theorem lw_p23 : lw_okq (⟨"PagingKernelModel", "notRunning", "(I)Z"⟩, 20) := ⟨⟨by decide +kernel, by decide +kernel⟩, List.mem_of_getElem? (i := 486) (by decide +kernel), List.mem_of_getElem? (i := 577) (by decide +kernel), List.mem_of_getElem? (i := 578) (by decide +kernel)⟩
theorem lw_p24 : lw_okq (⟨"PagingKernelModel", "drop", "(I)V"⟩, 20) := ⟨⟨by decide +kernel, by decide +kernel⟩, List.mem_of_getElem? (i := 486) (by decide +kernel), List.mem_of_getElem? (i := 585) (by decide +kernel), List.mem_of_getElem? (i := 586) (by decide +kernel)⟩
theorem lw_p25 : lw_okq (⟨"PagingKernelModel", "clean", "()V"⟩, 20) := ⟨⟨by decide +kernel, by decide +kernel⟩, List.mem_of_getElem? (i := 486) (by decide +kernel), List.mem_of_getElem? (i := 589) (by decide +kernel), List.mem_of_getElem? (i := 590) (by decide +kernel)⟩
theorem lw_p26 : lw_okq (⟨"PagingKernelModel", "owners", "(I)I"⟩, 20) := ⟨⟨by decide +kernel, by decide +kernel⟩, List.mem_of_getElem? (i := 486) (by decide +kernel), List.mem_of_getElem? (i := 593) (by decide +kernel), List.mem_of_getElem? (i := 594) (by decide +kernel)⟩
theorem lw_p27 : lw_okq (⟨"PagingKernelModel", "leave", "(I)V"⟩, 20) := ⟨⟨by decide +kernel, by decide +kernel⟩, List.mem_of_getElem? (i := 486) (by decide +kernel), List.mem_of_getElem? (i := 597) (by decide +kernel), List.mem_of_getElem? (i := 598) (by decide +kernel)⟩
theorem lw_p28 : lw_okq (⟨"PagingKernelModel", "growStack", "(II)V"⟩, 20) := ⟨⟨by decide +kernel, by decide +kernel⟩, List.mem_of_getElem? (i := 486) (by decide +kernel), List.mem_of_getElem? (i := 617) (by decide +kernel), List.mem_of_getElem? (i := 618) (by decide +kernel)⟩
theorem lw_p29 : lw_okq (⟨"PagingKernelModel", "pageOf", "(II)I"⟩, 20) := ⟨⟨by decide +kernel, by decide +kernel⟩, List.mem_of_getElem? (i := 486) (by decide +kernel), List.mem_of_getElem? (i := 621) (by decide +kernel), List.mem_of_getElem? (i := 622) (by decide +kernel)⟩
theorem lw_p30 : lw_okq (⟨"PagingKernelModel", "touch", "(I)Z"⟩, 20) := ⟨⟨by decide +kernel, by decide +kernel⟩, List.mem_of_getElem? (i := 486) (by decide +kernel), List.mem_of_getElem? (i := 625) (by decide +kernel), List.mem_of_getElem? (i := 626) (by decide +kernel)⟩
theorem lw_p31 : lw_okq (⟨"PagingKernelModel", "getFrame", "()I"⟩, 20) := ⟨⟨by decide +kernel, by decide +kernel⟩, List.mem_of_getElem? (i := 486) (by decide +kernel), List.mem_of_getElem? (i := 629) (by decide +kernel), List.mem_of_getElem? (i := 630) (by decide +kernel)⟩
def lw_privs_2 : List (MethodName × Nat) := [(⟨"PagingKernel$Memory", "canGo", "(I)Z"⟩, 10), (⟨"PagingKernel$Memory", "sendOut", "(I)V"⟩, 10), (⟨"PagingKernel$Memory", "settle", "(II)V"⟩, 10), (⟨"PagingKernelModel", "begin", "(II)V"⟩, 20), (⟨"PagingKernelModel", "newPage", "()I"⟩, 20), (⟨"PagingKernelModel", "out", "(II)Z"⟩, 20), (⟨"PagingKernelModel", "fail", "(I)I"⟩, 20), (⟨"PagingKernelModel", "notRunning", "(I)Z"⟩, 20), (⟨"PagingKernelModel", "drop", "(I)V"⟩, 20), (⟨"PagingKernelModel", "clean", "()V"⟩, 20), (⟨"PagingKernelModel", "owners", "(I)I"⟩, 20), (⟨"PagingKernelModel", "leave", "(I)V"⟩, 20), (⟨"PagingKernelModel", "growStack", "(II)V"⟩, 20), (⟨"PagingKernelModel", "pageOf", "(II)I"⟩, 20), (⟨"PagingKernelModel", "touch", "(I)Z"⟩, 20), (⟨"PagingKernelModel", "getFrame", "()I"⟩, 20)]
theorem lw_r2 : ∀ q ∈ lw_privs_2, lw_okq q := List.forall_mem_cons.mpr ⟨lw_p16, List.forall_mem_cons.mpr ⟨lw_p17, List.forall_mem_cons.mpr ⟨lw_p18, List.forall_mem_cons.mpr ⟨lw_p19, List.forall_mem_cons.mpr ⟨lw_p20, List.forall_mem_cons.mpr ⟨lw_p21, List.forall_mem_cons.mpr ⟨lw_p22, List.forall_mem_cons.mpr ⟨lw_p23, List.forall_mem_cons.mpr ⟨lw_p24, List.forall_mem_cons.mpr ⟨lw_p25, List.forall_mem_cons.mpr ⟨lw_p26, List.forall_mem_cons.mpr ⟨lw_p27, List.forall_mem_cons.mpr ⟨lw_p28, List.forall_mem_cons.mpr ⟨lw_p29, List.forall_mem_cons.mpr ⟨lw_p30, List.forall_mem_cons.mpr ⟨lw_p31, fun _ h => absurd h List.not_mem_nil⟩⟩⟩⟩⟩⟩⟩⟩⟩⟩⟩⟩⟩⟩⟩⟩
theorem lw_p32 : lw_okq (⟨"PagingKernelModel", "look", "()Z"⟩, 20) := ⟨⟨by decide +kernel, by decide +kernel⟩, List.mem_of_getElem? (i := 486) (by decide +kernel), List.mem_of_getElem? (i := 633) (by decide +kernel), List.mem_of_getElem? (i := 634) (by decide +kernel)⟩
theorem lw_p33 : lw_okq (⟨"PagingKernelModel", "canGo", "(I)Z"⟩, 20) := ⟨⟨by decide +kernel, by decide +kernel⟩, List.mem_of_getElem? (i := 486) (by decide +kernel), List.mem_of_getElem? (i := 637) (by decide +kernel), List.mem_of_getElem? (i := 638) (by decide +kernel)⟩
theorem lw_p34 : lw_okq (⟨"PagingKernelModel", "freeSlot", "()I"⟩, 20) := ⟨⟨by decide +kernel, by decide +kernel⟩, List.mem_of_getElem? (i := 486) (by decide +kernel), List.mem_of_getElem? (i := 641) (by decide +kernel), List.mem_of_getElem? (i := 642) (by decide +kernel)⟩
theorem lw_p35 : lw_okq (⟨"PagingKernelModel", "sendOut", "(I)V"⟩, 20) := ⟨⟨by decide +kernel, by decide +kernel⟩, List.mem_of_getElem? (i := 486) (by decide +kernel), List.mem_of_getElem? (i := 645) (by decide +kernel), List.mem_of_getElem? (i := 646) (by decide +kernel)⟩
theorem lw_p36 : lw_okq (⟨"PagingKernelModel", "putIn", "(II)V"⟩, 20) := ⟨⟨by decide +kernel, by decide +kernel⟩, List.mem_of_getElem? (i := 486) (by decide +kernel), List.mem_of_getElem? (i := 649) (by decide +kernel), List.mem_of_getElem? (i := 650) (by decide +kernel)⟩
theorem lw_p37 : lw_okq (⟨"PagingKernelModel", "wordOf", "(II)I"⟩, 20) := ⟨⟨by decide +kernel, by decide +kernel⟩, List.mem_of_getElem? (i := 486) (by decide +kernel), List.mem_of_getElem? (i := 653) (by decide +kernel), List.mem_of_getElem? (i := 654) (by decide +kernel)⟩
theorem lw_p38 : lw_okq (⟨"PagingKernelModel", "seek", "(II)I"⟩, 20) := ⟨⟨by decide +kernel, by decide +kernel⟩, List.mem_of_getElem? (i := 486) (by decide +kernel), List.mem_of_getElem? (i := 673) (by decide +kernel), List.mem_of_getElem? (i := 674) (by decide +kernel)⟩
def lw_privs_3 : List (MethodName × Nat) := [(⟨"PagingKernelModel", "look", "()Z"⟩, 20), (⟨"PagingKernelModel", "canGo", "(I)Z"⟩, 20), (⟨"PagingKernelModel", "freeSlot", "()I"⟩, 20), (⟨"PagingKernelModel", "sendOut", "(I)V"⟩, 20), (⟨"PagingKernelModel", "putIn", "(II)V"⟩, 20), (⟨"PagingKernelModel", "wordOf", "(II)I"⟩, 20), (⟨"PagingKernelModel", "seek", "(II)I"⟩, 20)]
theorem lw_r3 : ∀ q ∈ lw_privs_3, lw_okq q := List.forall_mem_cons.mpr ⟨lw_p32, List.forall_mem_cons.mpr ⟨lw_p33, List.forall_mem_cons.mpr ⟨lw_p34, List.forall_mem_cons.mpr ⟨lw_p35, List.forall_mem_cons.mpr ⟨lw_p36, List.forall_mem_cons.mpr ⟨lw_p37, List.forall_mem_cons.mpr ⟨lw_p38, fun _ h => absurd h List.not_mem_nil⟩⟩⟩⟩⟩⟩⟩
def lw_privs : List (MethodName × Nat) := lw_privs_1 ++ (lw_privs_2 ++ (lw_privs_3))
def lw_tbl : List Cond := k2_sels lw_privs ++ tables_1
theorem lw_privs_ok : ∀ q ∈ lw_privs, lw_okq q := by
  show ∀ q ∈ lw_privs_1 ++ (lw_privs_2 ++ (lw_privs_3)), lw_okq q
  exact List.forall_mem_append.mpr ⟨lw_r1, List.forall_mem_append.mpr ⟨lw_r2, lw_r3⟩⟩
end
section
def va_AOA (t : FieldType) (U : State) : Prop := (Cond.arrayOver (.array t)).before #[] U = true
theorem va_AOA.use {t : FieldType} {A : Array Value} {U : State} (h : va_AOA t U) : (Cond.arrayOver (.array t)).before A U = true := h
section AMG0
variable {p : Program} {l : Launch} {e : Env} {R : Room} {s : State} {m : MethodId} {args : Array Value} {below : List Frame} {meth : Method} {c : Code} {H : Heap} {locs : List Loc} {cells slots : Nat} {Q : State → Prop} {cc : ByteArray} {pc : Nat} {ls : Array Slot} {rest : List Value} {D : va_G} {cl : List vw_C} {a : Nat} {tys : List (ClassId × FieldType)} {ws : va_W}
theorem am_aald (hexec : p.tables.exec = Jvm.exec) (hb : c.code = cc) (hK : va_K D cl tys s) (hP : va_P D cl ws H) (q0 t0 : Nat) {cA : ClassId} {t : FieldType} {n : Nat} {f : Nat → Option Nat} (ha : ws[q0]? = some (a, .inl (cA, n, .inr (.inr (.inr (.inr f)))))) (ht : tys[t0]? = some (cA, .array t)) {i : Int32} (hin : vp_in i n) (hdg : decode cc pc = .ok (.aaload, 1))
    (kk : W p l e R s m args below meth c H locs cells slots Q (F0 m (pc + 1) ls (va_rf (f i.toNatClampNeg) :: rest))) : W p l e R s m args below meth c H locs cells slots Q (F0 m pc ls (.int i :: .ref a :: rest)) := by
  have hlt : i.toNatClampNeg < n := Nat.not_le.mp fun q => hin (Or.inr q)
  exact W.aald (v := va_rf (f i.toNatClampNeg)) (ty := .array t) hexec hb (hP q0 _ ha) ((hK.2 t0 _ ht).1 n (fun j => va_rf (f j))) rfl (fun q => by cases q) (by show ¬ (i < 0 ∨ (arrV _ _ _).slots.size ≤ _); rw [arrV_size]; exact hin) (by show (arrV _ _ _).slots[_]? = _; rw [arrV_read _ _ hlt]) rfl rfl hdg kk
end AMG0
/-! ===== BEGIN words of one list among another's, by their places ===== -/
theorem goodIn_r {big : List Cond} (ws : List Cond) (ps : List Nat) (hp : ws = ps.filterMap (fun i => big[i]?)) (h : ws.all goodWord = true) : GoodIn big ws := by
  intro w hw
  have h1 := List.all_eq_true.mp h w hw
  rw [hp] at hw
  obtain ⟨i, -, hi⟩ := List.mem_filterMap.mp hw
  have hm : w ∈ big := by first | exact List.mem_of_getElem? hi | exact List.getElem?_mem hi
  exact ⟨hm, good_of_word h1⟩
theorem goodIn_app {big a b : List Cond} (ha : GoodIn big a) (hb : GoodIn big b) : GoodIn big (a ++ b) := fun w h => (List.mem_append.mp h).elim (ha w) (hb w)
theorem goodIn_ca {big a b : List Cond} {c : Cond} (ha : GoodIn big (c :: a)) (hb : GoodIn big b) : GoodIn big (c :: (a ++ b)) := fun w h => (List.mem_cons.mp h).elim (fun e => ha w (List.mem_cons.mpr (Or.inl e))) (fun h => (List.mem_append.mp h).elim (fun h => ha w (List.mem_cons.mpr (Or.inr h))) (hb w))
theorem goodIn_sub {big ws : List Cond} (hm : ∀ w ∈ ws, w ∈ big) (h : ws.all goodWord = true) : GoodIn big ws := fun w hw => ⟨hm w hw, good_of_word (List.all_eq_true.mp h w hw)⟩
/-! ===== END ===== -/

/-! ===== BEGIN new T[n][m]: the outer array a place, the inner ones among the pooled ===== -/
/-- f, but v at every address of l -/
def vr_up {α : Type} (f : Nat → α) (l : List Nat) (v : α) : Nat → α := fun a => if a ∈ l then v else f a
theorem vr_up_in {α : Type} {f : Nat → α} {l : List Nat} {v : α} {a : Nat} (h : a ∈ l) : vr_up f l v a = v := if_pos h
theorem vr_up_ne {α : Type} {f : Nat → α} {l : List Nat} {v : α} {a : Nat} (h : a ∉ l) : vr_up f l v a = f a := if_neg h
theorem vr_rows {L l : List Nat} {f : Nat → va_E} {e : va_E} (h : ∀ a, a ∈ l → a ∉ L) : va_pl L f ++ l.map (fun a => (a, e)) = va_pl (L ++ l) (vr_up f l e) := by
  unfold va_pl
  rw [List.map_append]
  congr 1
  · apply List.map_congr_left
    intro a ha
    rw [vr_up_ne (fun q => h a q ha)]
  · apply List.map_congr_left
    intro a ha
    rw [vr_up_in ha]
theorem vr_lay {X rows : va_W} {x : Nat × va_E} {pl : va_W} {D : va_G} {cl : List vw_C} {H : Heap} (hP : va_P D cl (((X ++ pl) ++ [x]) ++ rows) H) : va_P D cl ((X ++ [x]) ++ (pl ++ rows)) H := by
  rw [List.append_assoc (X ++ pl)] at hP
  have h := va_P.swap hP
  rw [← List.append_assoc X] at h
  have h2 := va_P.swap h
  rw [List.append_assoc (X ++ [x])] at h2
  exact h2
theorem vr_layD {X rows : va_W} {x : Nat × va_E} {pl : va_W} {A : Nat → Prop} (hD : va_D A (((X ++ pl) ++ [x]) ++ rows)) : va_D A ((X ++ [x]) ++ (pl ++ rows)) := by
  rw [List.append_assoc (X ++ pl)] at hD
  have h := va_D.swap hD
  rw [← List.append_assoc X] at h
  have h2 := va_D.swap h
  rw [List.append_assoc (X ++ [x])] at h2
  exact h2
theorem vr_outer (c : ClassId) (N h0 : Nat) : ∀ i : Nat, Jvm.Free.Multi.outerC c N h0 i = arrV c N (fun j => va_rf (if j < i then some (h0 + 1 + j) else none))
  | 0 => by
    show ({ cls := c, slots := Array.replicate N .null, vm := .none } : Cell) = _
    rw [arrV_new]
    refine congrArg (arrV c N) (funext fun j => ?_)
    simp [va_rf]
  | i + 1 => by
    show (Jvm.Free.Multi.outerC c N h0 i).setSlot i (.ref (h0 + 1 + i)) = _
    rw [vr_outer c N h0 i, arrV_store]
    refine congrArg (arrV c N) (funext fun j => ?_)
    by_cases e : j = i
    · subst e
      simp [updV, va_rf]
    · by_cases h : j < i
      · simp [updV, e, h, Nat.lt_succ_of_lt h]
      · simp [updV, e, h, show ¬ j < i + 1 by omega]
section VGM
variable {p : Program} {l : Launch} {e : Env} {R : Room} {s : State} {m : MethodId} {args : Array Value} {below : List Frame} {meth : Method} {c : Code} {H : Heap} {locs : List Loc} {cells slots : Nat} {Q : State → Prop}
variable {cc : ByteArray} {pc : Nat} {ls : Array Slot} {rest : List Value} {D : va_G} {cl : List vw_C} {A : Nat → Prop} {a : Nat} {tys : List (ClassId × FieldType)} {ws : va_W} {H0 : Heap}
theorem va_mna {X : va_W} {L : List Nat} {f : Nat → va_E} {cc : ByteArray} (hexec : p.tables.exec = Jvm.exec) (hb : c.code = cc) {own : String} {index : Nat} {ty : FieldType} {cy : ClassId} (hown : s.vm.findClass own = some m.cls) (hclink : (Cond.classLink own index ("[" ++ (FieldType.array ty).toString)).before args s = true) (hover : va_AOA ty s) (harr : (Cond.arrayClass ty).before args s = true) (hcy : s.vm.findClass (FieldType.array ty).toString = some cy)
    (hK : va_K D cl tys s) (hP : va_P D cl (X ++ va_pl L f) H) (hD : va_D A (X ++ va_pl L f)) (hS : va_S A H0 H locs) (hA : ∀ q, H0.size ≤ q → A q) {n k : Int32} {N' K' : Nat} {z : vp_A} (hn : ¬ n < 0) (hk : ¬ k < 0) (hN : n.toNatClampNeg = N') (hM : k.toNatClampNeg = K')
    (hb1 : N' * 4 ≤ 536870912) (hb2 : K' * componentBytes ty ≤ 536870912) (hb3 : K' ≤ 536870912) (hdf : fits ty (defaultValue ty) = true) (hdd : (defaultValue ty).isDefault = true) (hcells : cells + (1 + N') ≤ R.cells) (hslots : slots + (N' + N' * K') ≤ R.slots) (hz : ∀ c : ClassId, Jvm.Free.Multi.innerC c K' (defaultValue ty) = vp_cell c z) (hdg : decode cc pc = .ok (.multianewarray index 2, 4))
    (kk : ∀ (q : Nat) (r : Nat → Nat) (cA : ClassId) (H1 : Heap), (∀ i j : Nat, i < N' → j < N' → r i = r j → i = j) → (∀ i : Nat, i < N' → r i ∉ L) → va_K D cl (tys ++ [(cA, .array ty)]) s →
      va_P D cl ((X ++ [(q, .inl (cA, N', .inr (.inr (.inr (.inr (fun i => if i < N' then some (r i) else none))))))]) ++ va_pl (L ++ (List.range N').map r) (vr_up f ((List.range N').map r) (.inl (cy, z)))) H1 → va_D A ((X ++ [(q, .inl (cA, N', .inr (.inr (.inr (.inr (fun i => if i < N' then some (r i) else none))))))]) ++ va_pl (L ++ (List.range N').map r) (vr_up f ((List.range N').map r) (.inl (cy, z)))) → va_S A H0 H1 locs →
      W p l e R s m args below meth c H1 locs (cells + 1 + N') (slots + N' + N' * K') Q (F0 m (pc + 4) ls (.ref q :: rest))) : W p l e R s m args below meth c H locs cells slots Q (F0 m pc ls (.int k :: .int n :: rest)) := by
  subst hN
  subst hM
  intro T hT Xs
  obtain ⟨vm₁, cA, comp, -, fA, fC, hO, -, X', step⟩ := Xs.multianewarray2F hexec hown hclink (va_AOA.use hover) harr (g := F0 m pc ls (.int k :: .int n :: rest)) rfl (by rw [hb]; exact hdg) rfl hn hk hb1 hb2 hb3 hdf hdd hcells hslots
  have ec : some cy = some comp := hcy.symm.trans fC
  cases ec
  generalize hF : Jvm.Free.Multi.fill (T.setVm vm₁) cA cy n.toNatClampNeg k.toNatClampNeg (defaultValue ty) n.toNatClampNeg = F at X' step
  have hTh : (T.setVm vm₁).heap = H := hT
  obtain ⟨f1, f2, -, -⟩ := Jvm.Free.Multi.fill_facts (T.setVm vm₁) cA cy n.toNatClampNeg k.toNatClampNeg (defaultValue ty) n.toNatClampNeg
  rw [hF, hTh] at f1 f2
  have hold : ∀ x : Nat, x < H.size → F.heap[x]? = H[x]? := fun x hx => by
    have := Jvm.Free.Multi.fill_old (T.setVm vm₁) cA cy n.toNatClampNeg k.toNatClampNeg (defaultValue ty) (a := x) (by rw [hTh]; exact hx) n.toNatClampNeg
    rw [hF, hTh] at this
    exact this
  have hrow : ∀ j : Nat, j < n.toNatClampNeg → F.heap[H.size + 1 + j]? = some (vp_cell cy z) := fun j hj => by
    have := Jvm.Free.Multi.fill_inner (T.setVm vm₁) cA cy n.toNatClampNeg k.toNatClampNeg (defaultValue ty) n.toNatClampNeg j hj
    rw [hF, hTh, hz] at this
    exact this
  have hout : Jvm.Free.Multi.outerC cA n.toNatClampNeg H.size n.toNatClampNeg = vp_cell cA (n.toNatClampNeg, .inr (.inr (.inr (.inr (fun i => if i < n.toNatClampNeg then some (H.size + 1 + i) else none))))) := by
    rw [vp_cell_q]
    exact vr_outer cA n.toNatClampNeg H.size n.toNatClampNeg
  rw [hout] at f2
  have hlt : ∀ a, a ∈ L → a < H.size := fun a ha => by
    obtain ⟨k9, hk9⟩ := va_pl_get (X := X) (f := f) ha
    exact (hP k9 _ hk9).lt
  have hnl : ∀ i : Nat, i < n.toNatClampNeg → H.size + 1 + i ∉ L := fun i _ h => by
    have := hlt _ h
    omega
  have hnm : ∀ a, a ∈ (List.range n.toNatClampNeg).map (fun i => H.size + 1 + i) → a ∉ L := fun a ha h => by
    obtain ⟨i, -, rfl⟩ := List.mem_map.mp ha
    have := hlt _ h
    omega
  have hP0 : va_P D cl (X ++ va_pl L f) F.heap := hP.kept (fun k9 x hx => hold x.1 ((hP k9 x hx).lt))
  have hP1 : va_P D cl ((X ++ va_pl L f) ++ [(H.size, .inl (cA, n.toNatClampNeg, .inr (.inr (.inr (.inr (fun i => if i < n.toNatClampNeg then some (H.size + 1 + i) else none))))))]) F.heap := hP0.app (fun k9 x hx => by
    have h0 : k9 < 1 := (List.getElem?_eq_some_iff.mp hx).1
    rw [show k9 = 0 by omega] at hx
    cases hx
    exact f2)
  have hP2 : va_P D cl (((X ++ va_pl L f) ++ [(H.size, .inl (cA, n.toNatClampNeg, .inr (.inr (.inr (.inr (fun i => if i < n.toNatClampNeg then some (H.size + 1 + i) else none))))))]) ++ ((List.range n.toNatClampNeg).map (fun i => H.size + 1 + i)).map (fun a => (a, .inl (cy, z)))) F.heap := hP1.app (fun k9 x hx => by
    obtain ⟨a, ha, rfl⟩ := List.mem_map.mp (List.mem_of_getElem? hx)
    obtain ⟨i, hi, rfl⟩ := List.mem_map.mp ha
    exact hrow i (List.mem_range.mp hi))
  have hD2 : va_D A (((X ++ va_pl L f) ++ [(H.size, .inl (cA, n.toNatClampNeg, .inr (.inr (.inr (.inr (fun i => if i < n.toNatClampNeg then some (H.size + 1 + i) else none))))))]) ++ ((List.range n.toNatClampNeg).map (fun i => H.size + 1 + i)).map (fun a => (a, .inl (cy, z)))) := by
    have hD1 := hD.push (e := .inl (cA, n.toNatClampNeg, .inr (.inr (.inr (.inr (fun i => if i < n.toNatClampNeg then some (H.size + 1 + i) else none)))))) hP rfl (hA _ hS.1)
    generalize hW1 : (X ++ va_pl L f) ++ [(H.size, .inl (cA, n.toNatClampNeg, .inr (.inr (.inr (.inr (fun i => if i < n.toNatClampNeg then some (H.size + 1 + i) else none))))))] = W1 at hD1 hP1 ⊢
    have hle : ∀ (k9 : Nat) (x : Nat × va_E), W1[k9]? = some x → x.1 ≤ H.size := fun k9 x hx => by
      rw [← hW1] at hx
      by_cases hl : k9 < (X ++ va_pl L f).length
      · rw [List.getElem?_append_left hl] at hx
        exact Nat.le_of_lt ((hP k9 x hx).lt)
      · rw [List.getElem?_append_right (by omega)] at hx
        have h0 : k9 - (X ++ va_pl L f).length < 1 := (List.getElem?_eq_some_iff.mp hx).1
        rw [show k9 - (X ++ va_pl L f).length = 0 by omega] at hx
        cases hx
        exact Nat.le_refl _
    have hr : ∀ (k9 : Nat) (x : Nat × va_E), (((List.range n.toNatClampNeg).map (fun i => H.size + 1 + i)).map (fun a => ((a, .inl (cy, z)) : Nat × va_E)))[k9]? = some x → x.1 = H.size + 1 + k9 := fun k9 x hx => by
      rw [List.getElem?_map, List.getElem?_map] at hx
      by_cases h9 : k9 < n.toNatClampNeg
      · rw [List.getElem?_range h9] at hx
        cases hx
        rfl
      · have hn0 : (List.range n.toNatClampNeg)[k9]? = none := List.getElem?_eq_none (by rw [List.length_range]; omega)
        rw [hn0] at hx
        cases hx
    refine ⟨fun i j x y hi hj hxy => ?_, fun k9 x hx => ?_⟩
    · by_cases h1 : i < W1.length <;> by_cases h2 : j < W1.length
      · rw [List.getElem?_append_left h1] at hi
        rw [List.getElem?_append_left h2] at hj
        exact hD1.1 i j x y hi hj hxy
      · rw [List.getElem?_append_left h1] at hi
        rw [List.getElem?_append_right (by omega)] at hj
        have := hle _ _ hi
        have := hr _ _ hj
        omega
      · rw [List.getElem?_append_right (by omega)] at hi
        rw [List.getElem?_append_left h2] at hj
        have := hle _ _ hj
        have := hr _ _ hi
        omega
      · rw [List.getElem?_append_right (by omega)] at hi hj
        have := hr _ _ hi
        have := hr _ _ hj
        omega
    · by_cases h1 : k9 < W1.length
      · rw [List.getElem?_append_left h1] at hx
        exact hD1.2 k9 x hx
      · rw [List.getElem?_append_right (by omega)] at hx
        have := hr _ _ hx
        exact hA _ (by have := hS.1; omega)
  have hAr : ArrOfT s cA (.array ty) := fun N9 z9 => by
    obtain ⟨-, k9, hk9, cm9, hkk9⟩ := (hO 0 0 0).1
    exact ⟨(fun q hq => by cases hq), k9, hk9, cm9, hkk9⟩
  have hK2 : va_K D cl (tys ++ [(cA, .array ty)]) s := ⟨hK.1, fun k9 x hx => by
    by_cases hl : k9 < tys.length
    · rw [List.getElem?_append_left hl] at hx
      exact hK.2 k9 x hx
    · rw [List.getElem?_append_right (by omega)] at hx
      have h0 : k9 - tys.length < 1 := (List.getElem?_eq_some_iff.mp hx).1
      rw [show k9 - tys.length = 0 by omega] at hx
      cases hx
      exact ⟨hAr, fA⟩⟩
  obtain ⟨t, a1, b1⟩ := kk H.size (fun i => H.size + 1 + i) cA F.heap (fun i j _ _ h => by have h9 : H.size + 1 + i = H.size + 1 + j := h; omega) hnl hK2 (by rw [← vr_rows hnm]; exact vr_lay hP2) (by rw [← vr_rows hnm]; exact vr_layD hD2) ⟨by rw [f1]; have := hS.1; omega, fun x h1 h2 => (hold x (Nat.lt_of_lt_of_le h1 hS.1)).trans (hS.2.1 x h1 h2), hS.2.2⟩ F rfl X'
  refine ⟨t, step t ?_, b1⟩
  have e : T.heap.size = H.size := by rw [hT]
  rw [e]
  exact a1
end VGM
/-! ===== END ===== -/

/-! ===== BEGIN exceptions that leave a method, and their catching by the caller (launches without stack traces) ===== -/
section VXA
/-! The laws vx_back, vx_callV, vx_callS, vx_callSW, vx_throw0, vx_throwS follow proofs of the library, with one case more: JvmDerived/Free/Laws.lean (Back.of_free), Shelf42/LK1.lean (callV, callS), Shelf/KitTraced.lean (throwNew0V, throwNewS). -/
/-- where a method has thrown q: the class by its name, the cell, what was written, the world -/
def vx_T (XC : String → State → State → Prop) (st : State) (q : Addr) (t : State) (mc ms : Nat) (free : Addr → Prop) : Prop :=
  ∃ (E : String) (ce : Cell) (L : List Loc), XC E st t ∧ t.heap[q]? = some ce ∧ ce.vm = .none ∧ st.vm.findClass E = some ce.cls ∧ st.WarmedH t.vm ∧ st.sameButNew ({ t with vm := st.vm } : State) L mc ms ∧ ∀ z ∈ L, free z.base
def vx_Q (Qc : Array Value → State → Outcome → State → Prop) (XC : String → State → State → Prop) (mc ms : Nat) (free : Addr → Prop) : Array Value → State → Outcome → State → Prop := fun a st o t =>
  (Qc a st o t ∧ ∃ L, FrameEnd st o t L mc ms ∧ ∀ q ∈ L, free q.base) ∨ ∃ q, o = .threw q ∧ vx_T XC st q t mc ms free
/-- a callee that returns or throws -/
def vx_Met (l : Launch) (y : MethodName) (ws : List Cond) (rm : Room) (Pc : Array Value → State → Prop) (Qc : Array Value → State → Outcome → State → Prop) (XC : String → State → State → Prop) (mc ms : Nat) (free : Addr → Prop) : Prop :=
  MetFree l y (headSpec ws rm) Pc (fun _ _ _ _ _ => True) (vx_Q Qc XC mc ms free)
def vx_Post (XC : String → State → State → Prop) (mc ms : Nat) (free : Addr → Prop) : Pt → Array Value → Addr → Pt → Prop := fun A a q B =>
  ∃ (g : JFrame) (mk : MethodId) (t : State) (L : List Loc) (E : String) (ce : Cell), B.U.heap = t.heap ∧ B.U.vm = t.vm ∧ XC E (A.U.calling g mk a) t ∧ t.heap[q]? = some ce ∧ ce.vm = .none ∧ A.U.vm.findClass E = some ce.cls ∧ B.locs = A.locs ++ L ∧ (∀ z ∈ L, free z.base) ∧ B.cells = A.cells + mc ∧ B.slots = A.slots + ms
def vx_Back (l : Launch) (R : Room) (p : Program) (e : Env) (below : List Frame) (s : State) (sargs : Array Value) (y : MethodName) (len W9 : Nat)
    (Pre : Pt → Array Value → Prop) (Post : Pt → Array Value → Option Value → Pt → Prop) (PostX : Pt → Array Value → Addr → Pt → Prop) : Prop :=
  ∀ (m : MethodId) (meth : Method) (c : Code) (A : Pt) (g : JFrame) (ig : Instr) (mk : MethodId) (a : Array Value),
    Stand p l e R s m sargs below meth c A.U A.locs A.cells A.slots → g.method = m → g.locals.size = c.maxLocals → decode c.code g.pc = .ok (ig, len) →
    2 * g.monitorRoom + (g.stack.map fun v => v.category).sum ≤ W9 → A.U.methodNamed? y = some mk → Pre A a →
    (∃ (v : Option Value) (B : Pt), Stand p l e R s m sargs below meth c B.U B.locs B.cells B.slots ∧ Post A a v B ∧
      Steps p.tables e below (doInvoke e (A.U.setTop g) [] mk a).1 (B.U.setTop { g with pc := g.pc + len, stack := v.toList ++ g.stack })) ∨
    (∃ (q : Addr) (B : Pt), Stand p l e R s m sargs below meth c B.U B.locs B.cells B.slots ∧ PostX A a q B ∧
      Steps p.tables e below (doInvoke e (A.U.setTop g) [] mk a).1 ((B.U.setTop g).pushFrame (.throwing q)))
section Payer
variable {l : Launch} {R : Room} {p : Program} {e : Env} {below : List Frame} {s : State} {sargs : Array Value} {y : MethodName} {len W9 : Nat}
theorem vx_back {ws : List Cond} {rm : Room} {Pc : Array Value → State → Prop} {Qc : Array Value → State → Outcome → State → Prop} {XC : String → State → State → Prop} {mc ms : Nat} {free : Addr → Prop} {bytes : ByteArray} {maxL : Nat} {ret : Option FieldType}
    (hM : vx_Met l y ws rm Pc Qc XC mc ms free) (hblind : FrameBlind Pc) (hrc : rm.cells = mc) (hrs : rm.slots = ms)
    (hframes : rm.frames + 1 ≤ R.frames) (hlocals : W9 + (maxL + 11) + rm.locals ≤ R.locals)
    (hws : ∀ w ∈ ws, ∀ a' U, s.WarmedH U.vm → w.before a' U = true) (hcode : Cond.code y bytes maxL ret ∈ ws) (hinit : ∀ a' U, s.WarmedH U.vm → (Cond.initialized y.cls).before a' U = true) :
    vx_Back l R p e below s sargs y len W9 (PreOf R mc ms Pc) (PostOf Qc mc ms free) (vx_Post XC mc ms free) := by
  intro m meth c A g ig mk a X hg hsize hdg hW hn hp
  have h1 : (headSpec ws rm).pre.before a A.U = true := atoms_intro fun w hw => hws w hw _ _ X.warmed
  have h2 : (Cond.code y bytes maxL ret).before a A.U = true := hws _ hcode _ _ X.warmed
  have h3 : (Cond.initialized y.cls).before a A.U = true := hinit _ _ X.warmed
  have h4 : A.cells + (headSpec ws rm).room.cells ≤ R.cells := by rw [show (headSpec ws rm).room.cells = mc from hrc]; exact hp.1
  have h5 : A.slots + (headSpec ws rm).room.slots ≤ R.slots := by rw [show (headSpec ws rm).room.slots = ms from hrs]; exact hp.2.1
  have hPc : Pc a (A.U.calling g mk a) := hblind _ _ _ _ hp.2.2
  obtain ⟨U, Ls, c0, s0⟩ := A
  dsimp only [Pt.U, Pt.locs, Pt.cells, Pt.slots] at h1 h2 h3 h4 h5 X hn hPc ⊢
  obtain ⟨methY, cY, hmY, hcY, -, hlY, -, -, -, -⟩ := Cond.code_spec hn h2
  obtain ⟨kY, hkY, -⟩ := className_of_methodNamed hn
  have hinitY : kY.init = .initialized := Cond.initialized_spec (findClass_of_methodNamed hn) hkY h3
  have h : At U g.method c below := by rw [hg]; exact X.here
  have hlocals9 : W9 + (maxL + 11) + (headSpec ws rm).room.locals ≤ R.locals := hlocals
  have happ : (headSpec ws rm).appliesLoose y e.platform (U.calling g mk a) = true :=
    Spec.appliesLoose_calling (g := g) h hdg hn hkY hinitY
      (X.room_calling (g := g) (R' := (headSpec ws rm).room) hsize hmY hcY hframes (by rw [hlY]; omega) h4 h5) h1
  obtain ⟨mid, hmid⟩ := h.above
  have hfr : (U.setTop g).frames = (.java g :: mid) ++ below := by rw [State.frames_setTop' g h.top, hmid]; rfl
  obtain ⟨o, s₂, hsteps, -, hend, hq⟩ := Steps.callFree hM p X.admits X.cas X.clock (acts := []) hfr happ hPc trivial
  have hq' : vx_Q Qc XC mc ms free a (U.calling g mk a) o s₂ := hq
  rw [State.frames_setTop' g h.top] at hend
  obtain ⟨g₀, hg0⟩ := Option.isSome_iff_exists.mp h.top
  obtain ⟨r, hr⟩ := State.topJava?_eq_some.mp hg0
  have hr' : (({ U with heap := s₂.heap, slotsUsed := s₂.slotsUsed } : State).setVm s₂.vm).frames = .java g₀ :: r := hr
  rcases hq' with ⟨hqc, L, hfe, hL⟩ | ⟨q, rfl, E, ce, L, hx, hce, hcv, hcl, hW₂, hsm, hL⟩
  · obtain ⟨⟨v, rfl⟩, hW₂, e2, q2, q3, q4, q5, q6⟩ := id hfe
    have e3 : s₂ = ({ (U.calling g mk a).setFrames s₂.frames with heap := s₂.heap, slotsUsed := s₂.slotsUsed } : State).setVm s₂.vm := by
      have : s₂ = ({ s₂ with vm := (U.calling g mk a).vm } : State).setVm s₂.vm := rfl
      rw [e2] at this
      exact this
    obtain ⟨c₂, i₂, len₂, hc₂, hd₂, hf₂⟩ := hend
    have hW' : U.WarmedH s₂.vm := hW₂
    have hcc : c₂ = c := by
      have h1 : s₂.code? g.method = U.code? g.method := by
        rw [State.code?_eq, State.code?_eq, hW'.alike.method?]
      exact Option.some.inj (hc₂.symm.trans (h1.trans h.code))
    subst hcc
    have hlen : len₂ = len := by rw [hdg] at hd₂; cases hd₂; rfl
    subst hlen
    have hs₂ : s₂ = (({ U with heap := s₂.heap, slotsUsed := s₂.slotsUsed } : State).setVm s₂.vm).setTop { g with pc := g.pc + len₂, stack := v.toList ++ g.stack } := by
      refine e3.trans ?_
      rw [hf₂, State.calling_eq h.top, State.setFrames_setFrames, State.setTop_of_frames _ hr', hr]
      rfl
    have hsame : U.sameButNew ({ U with heap := s₂.heap, slotsUsed := s₂.slotsUsed } : State) L mc ms := by
      refine ⟨?_, q2, q3, q4, q5, q6⟩
      obtain ⟨t, ht, -⟩ := State.frames_cons hr
      show ({ U with heap := s₂.heap, slotsUsed := s₂.slotsUsed } : State) = { U.setFrames U.frames with heap := s₂.heap, slotsUsed := s₂.slotsUsed }
      rw [State.setFrames_self ht]
    subst hg
    refine Or.inl ⟨v, ⟨(({ U with heap := s₂.heap, slotsUsed := s₂.slotsUsed } : State).setVm s₂.vm), Ls ++ L, c0 + mc, s0 + ms⟩,
      ⟨X.admits, X.cas, X.clock, X.frames, X.room, X.hears, X.method, X.code, (X.here.setHeapUsed s₂.heap s₂.slotsUsed).setVm hW'.alike, X.tail, State.WarmedH.trans X.warmed hW', X.limits, X.bytes, X.same.trans (hsame.setVm s.vm)⟩,
      ⟨g, mk, s₂, L, rfl, rfl, hqc, rfl, hL, rfl, rfl⟩, ?_⟩
    show Steps p.tables e below _ ((({ U with heap := s₂.heap, slotsUsed := s₂.slotsUsed } : State).setVm s₂.vm).setTop { g with pc := g.pc + len₂, stack := v.toList ++ g.stack })
    rw [← hs₂]
    exact hsteps
  · obtain ⟨e2, q2, q3, q4, q5, q6⟩ := id hsm
    have e3 : s₂ = ({ (U.calling g mk a).setFrames s₂.frames with heap := s₂.heap, slotsUsed := s₂.slotsUsed } : State).setVm s₂.vm := by
      have : s₂ = ({ s₂ with vm := (U.calling g mk a).vm } : State).setVm s₂.vm := rfl
      rw [e2] at this
      exact this
    have hf₂ : s₂.frames = .throwing q :: .java g :: U.frames.tail := hend
    have hW' : U.WarmedH s₂.vm := hW₂
    have hs₂ : s₂ = ((({ U with heap := s₂.heap, slotsUsed := s₂.slotsUsed } : State).setVm s₂.vm).setTop g).pushFrame (.throwing q) := by
      refine e3.trans ?_
      rw [hf₂, State.calling_eq h.top, State.setFrames_setFrames, State.pushFrame, State.frames_setTop _ hr', State.setTop_of_frames _ hr', State.setFrames_setFrames, hr]
      rfl
    have hsame : U.sameButNew ({ U with heap := s₂.heap, slotsUsed := s₂.slotsUsed } : State) L mc ms := by
      refine ⟨?_, q2, q3, q4, q5, q6⟩
      obtain ⟨t, ht, -⟩ := State.frames_cons hr
      show ({ U with heap := s₂.heap, slotsUsed := s₂.slotsUsed } : State) = { U.setFrames U.frames with heap := s₂.heap, slotsUsed := s₂.slotsUsed }
      rw [State.setFrames_self ht]
    subst hg
    refine Or.inr ⟨q, ⟨(({ U with heap := s₂.heap, slotsUsed := s₂.slotsUsed } : State).setVm s₂.vm), Ls ++ L, c0 + mc, s0 + ms⟩,
      ⟨X.admits, X.cas, X.clock, X.frames, X.room, X.hears, X.method, X.code, (X.here.setHeapUsed s₂.heap s₂.slotsUsed).setVm hW'.alike, X.tail, State.WarmedH.trans X.warmed hW', X.limits, X.bytes, X.same.trans (hsame.setVm s.vm)⟩,
      ⟨g, mk, s₂, L, E, ce, rfl, rfl, hx, hce, hcv, hcl, rfl, hL, rfl, rfl⟩, ?_⟩
    show Steps p.tables e below _ (((({ U with heap := s₂.heap, slotsUsed := s₂.slotsUsed } : State).setVm s₂.vm).setTop g).pushFrame (.throwing q))
    rw [← hs₂]
    exact hsteps
end Payer
section Calls
variable {p : Program} {l : Launch} {e : Env} {R : Room} {s : State} {m : MethodId} {args : Array Value} {below : List Frame} {meth : Method} {c : Code} {T : State} {locs : List Loc} {cells slots : Nat}
theorem vx_callV (X : Stand p l e R s m args below meth c T locs cells slots) (hexec : p.tables.exec = Jvm.exec) {own C : String} {index : Nat} {y : MethodName} {bytes : ByteArray} {maxL : Nat} {ret : Option FieldType}
    (hown : s.vm.findClass own = some m.cls) (hlink : (Cond.methodLink own index y).before args s = true) (hinst : (Cond.instanceMethod y).before args s = true) (hsel : (Cond.selects C y y).before args s = true)
    (hcode : (Cond.code y bytes maxL ret).before args s = true) (hy : y.cls ≠ "java/lang/invoke/MethodHandle" ∧ y.cls ≠ "java/lang/invoke/VarHandle")
    {W9 : Nat} {Pre : Pt → Array Value → Prop} {Post : Pt → Array Value → Option Value → Pt → Prop} {PostX : Pt → Array Value → Addr → Pt → Prop} (hK : vx_Back l R p e below s args y 3 W9 Pre Post PostX)
    {b : Addr} {cellB : Cell} (hcell : T.heap[b]? = some cellB) (hobj : cellB.vm.isStatics = false) (hcls : s.vm.findClass C = some cellB.cls)
    {g : JFrame} (hg : g.method = m) (hsize : g.locals.size = c.maxLocals) {argsL rest : List Value} (hlen : ∀ sig, parseMethodDescriptor y.desc = some sig → argsL.length = sig.parameters.length)
    (hstack : g.stack = argsL.reverse ++ .ref b :: rest) (hW : 2 * g.monitorRoom + (rest.map fun v => v.category).sum ≤ W9) (hdg : decode c.code g.pc = .ok (.invokevirtual index, 3))
    (hpre : ∀ vm₁, s.WarmedH vm₁ → Pre ⟨T.setVm vm₁, locs, cells, slots⟩ (Value.ref b :: argsL).toArray) :
    (∃ (v : Option Value) (vm₁ : Vm) (B : Pt), s.WarmedH vm₁ ∧ Stand p l e R s m args below meth c B.U B.locs B.cells B.slots ∧ Post ⟨T.setVm vm₁, locs, cells, slots⟩ (Value.ref b :: argsL).toArray v B ∧
      ∀ target, Steps p.tables e below (B.U.setTop { g with pc := g.pc + 3, stack := v.toList ++ rest }) target → Steps p.tables e below (T.setTop g) target) ∨
    (∃ (q : Addr) (vm₁ : Vm) (B : Pt), s.WarmedH vm₁ ∧ Stand p l e R s m args below meth c B.U B.locs B.cells B.slots ∧ PostX ⟨T.setVm vm₁, locs, cells, slots⟩ (Value.ref b :: argsL).toArray q B ∧
      Steps p.tables e below (T.setTop g) ((B.U.setTop { g with stack := rest }).pushFrame (.throwing q))) := by
  obtain ⟨mk, methM, hnamed, hmethM, hstM, habM⟩ := Cond.instanceMethod_spec hinst
  obtain ⟨methM', cM, hmethM', -, -, -, -, -, -, hsigM⟩ := Cond.code_spec hnamed hcode
  cases hmethM.symm.trans hmethM'
  obtain ⟨c2, r2, m2, q1, q2, q3, q4, kP, hkP, hkPi⟩ := Cond.selects_spec hsel
  cases hcls.symm.trans q1
  cases (State.methodFound?_of_named hnamed hy).symm.trans q2
  cases hnamed.symm.trans q3
  have hselP : selectMethod e.platform s.vm cellB.cls mk = .method mk := by rw [Launch.admits_selectMethod X.admits]; exact q4
  obtain ⟨vm₁, X₁, hstep₁⟩ := X.invokevirtual hexec hown hlink hnamed hmethM hstM hkP hkPi hy (a := b) (cell := cellB) hcell
    (fun z h => by rw [h] at hobj; cases hobj) hselP hmethM habM hkP hkPi (g := g) hg (argsL := argsL) (rest := rest) (hlen _ hsigM) hstack hdg
  rcases hK m meth c ⟨T.setVm vm₁, locs, cells, slots⟩ { g with stack := rest } (.invokevirtual index) mk (Value.ref b :: argsL).toArray X₁ hg hsize hdg hW (X₁.named hnamed) (hpre vm₁ X₁.warmed) with ⟨v, B, X', hpost, hsteps⟩ | ⟨q, B, X', hpost, hsteps⟩
  · exact Or.inl ⟨v, vm₁, B, X₁.warmed, X', hpost, fun target h => hstep₁ _ fun acts => by rw [doInvoke_state]; exact hsteps.trans h⟩
  · exact Or.inr ⟨q, vm₁, B, X₁.warmed, X', hpost, hstep₁ _ fun acts => by rw [doInvoke_state]; exact hsteps⟩
theorem vx_callS (X : Stand p l e R s m args below meth c T locs cells slots) (hexec : p.tables.exec = Jvm.exec) {own : String} {index : Nat} {y : MethodName} {bytes : ByteArray} {maxL : Nat} {ret : Option FieldType}
    (hown : s.vm.findClass own = some m.cls) (hlink : (Cond.methodLink own index y).before args s = true) (hstat : (Cond.static y).before args s = true) (hinit : (Cond.initialized y.cls).before args s = true)
    (hcode : (Cond.code y bytes maxL ret).before args s = true) (hy : y.cls ≠ "java/lang/invoke/MethodHandle" ∧ y.cls ≠ "java/lang/invoke/VarHandle")
    {W9 : Nat} {Pre : Pt → Array Value → Prop} {Post : Pt → Array Value → Option Value → Pt → Prop} {PostX : Pt → Array Value → Addr → Pt → Prop} (hK : vx_Back l R p e below s args y 3 W9 Pre Post PostX)
    {g : JFrame} (hg : g.method = m) (hsize : g.locals.size = c.maxLocals) {argsL rest : List Value} (hlen : ∀ sig, parseMethodDescriptor y.desc = some sig → argsL.length = sig.parameters.length)
    (hstack : g.stack = argsL.reverse ++ rest) (hW : 2 * g.monitorRoom + (rest.map fun v => v.category).sum ≤ W9) (hdg : decode c.code g.pc = .ok (.invokestatic index, 3))
    (hpre : ∀ vm₁, s.WarmedH vm₁ → Pre ⟨T.setVm vm₁, locs, cells, slots⟩ argsL.toArray) :
    (∃ (v : Option Value) (vm₁ : Vm) (B : Pt), s.WarmedH vm₁ ∧ Stand p l e R s m args below meth c B.U B.locs B.cells B.slots ∧ Post ⟨T.setVm vm₁, locs, cells, slots⟩ argsL.toArray v B ∧
      ∀ target, Steps p.tables e below (B.U.setTop { g with pc := g.pc + 3, stack := v.toList ++ rest }) target → Steps p.tables e below (T.setTop g) target) ∨
    (∃ (q : Addr) (vm₁ : Vm) (B : Pt), s.WarmedH vm₁ ∧ Stand p l e R s m args below meth c B.U B.locs B.cells B.slots ∧ PostX ⟨T.setVm vm₁, locs, cells, slots⟩ argsL.toArray q B ∧
      Steps p.tables e below (T.setTop g) ((B.U.setTop { g with stack := rest }).pushFrame (.throwing q))) := by
  obtain ⟨mk, hnamed⟩ := Cond.code_named hcode
  obtain ⟨methM, cM, hmethM, -, -, -, -, -, -, hsigM⟩ := Cond.code_spec hnamed hcode
  have hstatic : methM.isStatic = true := Cond.static_spec hnamed hmethM hstat
  obtain ⟨kP, hkP, -⟩ := className_of_methodNamed hnamed
  have hinitP : kP.init = .initialized := Cond.initialized_spec (findClass_of_methodNamed hnamed) hkP hinit
  obtain ⟨vm₁, X₁, hstep₁⟩ := X.invokestatic hexec hown hlink hnamed hmethM hstatic hkP hinitP hy (g := g) hg (argsL := argsL) (rest := rest) (hlen _ hsigM) hstack hdg
  rcases hK m meth c ⟨T.setVm vm₁, locs, cells, slots⟩ { g with stack := rest } (.invokestatic index) mk argsL.toArray X₁ hg hsize hdg hW (X₁.named hnamed) (hpre vm₁ X₁.warmed) with ⟨v, B, X', hpost, hsteps⟩ | ⟨q, B, X', hpost, hsteps⟩
  · exact Or.inl ⟨v, vm₁, B, X₁.warmed, X', hpost, fun target h => hstep₁ _ fun acts => by rw [doInvoke_state]; exact hsteps.trans h⟩
  · exact Or.inr ⟨q, vm₁, B, X₁.warmed, X', hpost, hstep₁ _ fun acts => by rw [doInvoke_state]; exact hsteps⟩
end Calls
theorem vx_cls {s : State} {T : State} {vm₁ : Vm} {E : String} {k : ClassId} (hW : s.WarmedH vm₁) (h : (T.setVm vm₁).vm.findClass E = some k) : s.vm.findClass E = some k := by
  have h1 : vm₁.findClass E = some k := h
  rw [hW.alike.findClass] at h1
  exact h1
/-- the method's frame g, with q thrown over it -/
def vx_W (p : Program) (l : Launch) (e : Env) (R : Room) (s : State) (m : MethodId) (args : Array Value) (below : List Frame) (meth : Method) (c : Code) (H : Heap) (locs : List Loc) (cells slots : Nat) (Q : State → Prop) (g : JFrame) (q : Addr) : Prop :=
  ∀ T : State, T.heap = H → Stand p l e R s m args below meth c T locs cells slots → ∃ t, Steps p.tables e below ((T.setTop g).pushFrame (.throwing q)) t ∧ Q t
def vx_Run (p : Program) (l : Launch) (e : Env) (R : Room) (s : State) (m : MethodId) (args : Array Value) (below : List Frame) (meth : Method) (c : Code) (H : Heap) (locs : List Loc) (cells slots mc ms : Nat) (g : JFrame) (rest : List Value) (Qa : State → Outcome → State → Prop) (XC : String → State → State → Prop) (free : Addr → Prop) : Prop :=
  ∀ T : State, T.heap = H → Stand p l e R s m args below meth c T locs cells slots →
    (∃ (v : Option Value) (st₀ t T' : State) (L : List Loc), st₀.heap = H ∧ Stand p l e R s m args below meth c T' (locs ++ L) (cells + mc) (slots + ms) ∧ (∀ q ∈ L, free q.base) ∧ T'.heap = t.heap ∧ T'.vm = t.vm ∧ Qa st₀ (.returned v) t ∧
      Goes p e below T g T' { g with pc := g.pc + 3, stack := v.toList ++ rest }) ∨
    (∃ (q : Addr) (st₀ t T' : State) (L : List Loc) (E : String) (ce : Cell), st₀.heap = H ∧ Stand p l e R s m args below meth c T' (locs ++ L) (cells + mc) (slots + ms) ∧ (∀ z ∈ L, free z.base) ∧ T'.heap = t.heap ∧ T'.vm = t.vm ∧ XC E st₀ t ∧ t.heap[q]? = some ce ∧ ce.vm = .none ∧ s.vm.findClass E = some ce.cls ∧
      Steps p.tables e below (T.setTop g) ((T'.setTop { g with stack := rest }).pushFrame (.throwing q)))
def vx_X {S : Type} (px : S → Prop) (B : String → S → State → Prop) (A : Nat → Prop) : String → State → State → Prop := fun E st t => ∃ u : S, px u ∧ B E u t ∧ va_F A st t
section Runs
variable {p : Program} {l : Launch} {e : Env} {R : Room} {s : State} {m : MethodId} {args : Array Value} {below : List Frame} {meth : Method} {c : Code} {H : Heap} {locs : List Loc} {cells slots : Nat}
variable {y : MethodName} {bytes cc : ByteArray} {maxL nL mc ms n index : Nat} {ret : Option FieldType} {ws : List Cond} {rm : Room} {Pc : Array Value → State → Prop} {Qc : Array Value → State → Outcome → State → Prop} {XC : String → State → State → Prop} {free : Addr → Prop} {Ts : List Cond} {own C : String} {b : Addr} {As rest : List Value} {g : JFrame}
theorem vx_callBack (cb : CallB R s args own index y bytes maxL ret ws rm mc ms n) (hM : vx_Met l y ws rm Pc Qc XC mc ms free) (hbl : FrameBlind Pc) : vx_Back l R p e below s args y 3 8 (PreOf R mc ms Pc) (PostOf Qc mc ms free) (vx_Post XC mc ms free) := by
  obtain ⟨hrc, hrs, hfr, hlo, hws, hcw, -, hini, -⟩ := cb
  exact vx_back (bytes := bytes) (maxL := maxL) (ret := ret) hM hbl hrc hrs hfr hlo hws hcw (fun a' U hW => word_at hW (Or.inl (by first | rfl | simp [Cond.onTables, Cond.keeps, Cond.steady])) hini)
theorem vx_runV (S : CallFix p m c cc nL s args Ts own) (hM : vx_Met l y ws rm Pc Qc XC mc ms free) (cw : CallW R s args own C index y bytes maxL ret ws rm mc ms n) (hp : PreV s H C b Pc As)
    (hg : g.method = m) (hn : As.length = n) (hsize : g.locals.size = nL) (hstack : g.stack = As.reverse ++ .ref b :: rest) (hW : 2 * g.monitorRoom + (rest.map fun v => v.category).sum ≤ 8) (hdg : decode cc g.pc = .ok (.invokevirtual index, 3)) (hf : cells + mc ≤ R.cells ∧ slots + ms ≤ R.slots) :
    vx_Run p l e R s m args below meth c H locs cells slots mc ms g rest (Qc (Value.ref b :: As).toArray) XC free := by
  have hK : vx_Back l R p e below s args y 3 8 (PreOf R mc ms Pc) (PostOf Qc mc ms free) (vx_Post XC mc ms free) := vx_callBack cw.1 hM hp.1
  obtain ⟨⟨-, -, -, -, -, -, hcode, -, hy, hlen, hl⟩, hin, hse⟩ := cw
  obtain ⟨hx, hb, hml, ho, -⟩ := S
  obtain ⟨-, ⟨cellB, hcB, hoB, hclB⟩, hPc⟩ := hp
  intro T hT X
  rcases vx_callV X hx (C := C) (bytes := bytes) (maxL := maxL) (ret := ret) ho hl hin hse hcode hy hK (by rw [hT]; exact hcB) hoB hclB hg (hsize.trans hml.symm) (argsL := As) (rest := rest) (fun sig h => hn.trans (hlen sig h)) hstack hW (by rw [hb]; exact hdg)
    (fun vm₁ hW₁ => ⟨hf.1, hf.2, hPc (T.setVm vm₁) hT hW₁⟩) with ⟨v, vm₁, ⟨U', l2, c2, s2⟩, hW₁, X', ⟨g', mk, t, L, e1, e2, hq, h1, hL, h2, h3⟩, st⟩ | ⟨q, vm₁, ⟨U', l2, c2, s2⟩, hW₁, X', ⟨g', mk, t, L, E, ce, e1, e2, hq, hce, hcv, hcl, h1, hL, h2, h3⟩, st⟩
  · dsimp only [Pt.U, Pt.locs, Pt.cells, Pt.slots] at X' e1 e2 h1 h2 h3 st
    subst h1; subst h2; subst h3
    exact Or.inl ⟨v, (T.setVm vm₁).calling g' mk (Value.ref b :: As).toArray, t, U', L, hT, X', hL, e1, e2, hq, st⟩
  · dsimp only [Pt.U, Pt.locs, Pt.cells, Pt.slots] at X' e1 e2 h1 h2 h3 st hcl
    subst h1; subst h2; subst h3
    exact Or.inr ⟨q, (T.setVm vm₁).calling g' mk (Value.ref b :: As).toArray, t, U', L, E, ce, hT, X', hL, e1, e2, hq, hce, hcv, vx_cls hW₁ hcl, st⟩
theorem vx_runS (S : CallFix p m c cc nL s args Ts own) (hM : vx_Met l y ws rm Pc Qc XC mc ms free) (cw : CallB R s args own index y bytes maxL ret ws rm mc ms n ∧ (Cond.static y).before args s = true) (hp : PreS s H Pc As)
    (hg : g.method = m) (hn : As.length = n) (hsize : g.locals.size = nL) (hstack : g.stack = As.reverse ++ rest) (hW : 2 * g.monitorRoom + (rest.map fun v => v.category).sum ≤ 8) (hdg : decode cc g.pc = .ok (.invokestatic index, 3)) (hf : cells + mc ≤ R.cells ∧ slots + ms ≤ R.slots) :
    vx_Run p l e R s m args below meth c H locs cells slots mc ms g rest (Qc As.toArray) XC free := by
  have hK : vx_Back l R p e below s args y 3 8 (PreOf R mc ms Pc) (PostOf Qc mc ms free) (vx_Post XC mc ms free) := vx_callBack cw.1 hM hp.1
  obtain ⟨⟨-, -, -, -, -, -, hcode, hini, hy, hlen, hl⟩, hstt⟩ := cw
  obtain ⟨hx, hb, hml, ho, -⟩ := S
  intro T hT X
  rcases vx_callS X hx (bytes := bytes) (maxL := maxL) (ret := ret) ho hl hstt hini hcode hy hK hg (hsize.trans hml.symm) (argsL := As) (rest := rest) (fun sig h => hn.trans (hlen sig h)) hstack hW (by rw [hb]; exact hdg)
    (fun vm₁ hW₁ => ⟨hf.1, hf.2, hp.2 (T.setVm vm₁) hT hW₁⟩) with ⟨v, vm₁, ⟨U', l2, c2, s2⟩, hW₁, X', ⟨g', mk, t, L, e1, e2, hq, h1, hL, h2, h3⟩, st⟩ | ⟨q, vm₁, ⟨U', l2, c2, s2⟩, hW₁, X', ⟨g', mk, t, L, E, ce, e1, e2, hq, hce, hcv, hcl, h1, hL, h2, h3⟩, st⟩
  · dsimp only [Pt.U, Pt.locs, Pt.cells, Pt.slots] at X' e1 e2 h1 h2 h3 st
    subst h1; subst h2; subst h3
    exact Or.inl ⟨v, (T.setVm vm₁).calling g' mk As.toArray, t, U', L, hT, X', hL, e1, e2, hq, st⟩
  · dsimp only [Pt.U, Pt.locs, Pt.cells, Pt.slots] at X' e1 e2 h1 h2 h3 st hcl
    subst h1; subst h2; subst h3
    exact Or.inr ⟨q, (T.setVm vm₁).calling g' mk As.toArray, t, U', L, E, ce, hT, X', hL, e1, e2, hq, hce, hcv, vx_cls hW₁ hcl, st⟩
end Runs
section Rows
variable {p : Program} {l : Launch} {e : Env} {R : Room} {s : State} {m : MethodId} {args : Array Value} {below : List Frame} {meth : Method} {c : Code} {H : Heap} {locs : List Loc} {cells slots : Nat} {Q : State → Prop}
variable {mc ms : Nat} {free : Addr → Prop} {A0 A1 : Nat → Prop} {H0 : Heap} {a : Array Value} {pc : Nat} {ls : Array Slot} {st0 rest : List Value}
theorem vx_keep {st₀ t T' : State} {L : List Loc} (h0 : st₀.heap = H) (e1 : T'.heap = t.heap) (hS : va_S A0 H0 H locs) (hA : ∀ q, q < H.size → A1 q → A0 q) (hf : ∀ q, free q → A0 q) (hL : ∀ q ∈ L, free q.base) (hF : va_F A1 st₀ t) :
    H.size ≤ T'.heap.size ∧ (∀ q : Nat, q < H.size → ¬ A1 q → T'.heap[q]? = H[q]?) ∧ va_S A0 H0 T'.heap (locs ++ L) := by
  obtain ⟨hz, hk⟩ := hF
  rw [h0] at hz hk
  exact ⟨by rw [e1]; exact hz, fun q h1 h2 => by rw [e1]; exact hk q h1 h2,
    ⟨Nat.le_trans hS.1 (by rw [e1]; exact hz), fun q h1 h2 => by rw [e1, hk q (Nat.lt_of_lt_of_le h1 hS.1) (fun z => h2 (hA q (Nat.lt_of_lt_of_le h1 hS.1) z))]; exact hS.2.1 q h1 h2, fun q hq => by
      rcases List.mem_append.mp hq with h | h
      · exact hS.2.2 q h
      · exact hf _ (hL q h)⟩⟩
theorem vx_calli {S SX : Type} {post : Int32 → S → Prop} {px : SX → Prop} {B : S → State → Prop} {BX : String → SX → State → Prop} {AX : Nat → Prop} (hr : vx_Run p l e R s m args below meth c H locs cells slots mc ms (F0 m pc ls st0) rest (va_Qi post B A1 a) (vx_X px BX AX) free) (hS : va_S A0 H0 H locs) (hA : ∀ q, q < H.size → A1 q → A0 q) (hf : ∀ q, free q → A0 q) (hAX : ∀ q, q < H.size → AX q → A0 q)
    (kx : ∀ (E : String) (ce : Cell) (q9 : Addr) (u : SX) (t : State) (H1 : Heap) (locs1 : List Loc), t.heap = H1 → s.vm.Alike t.vm → px u → BX E u t → H.size ≤ H1.size → (∀ q : Nat, q < H.size → ¬ AX q → H1[q]? = H[q]?) → va_S A0 H0 H1 locs1 → H1[q9]? = some ce → ce.vm = .none → s.vm.findClass E = some ce.cls → vx_W p l e R s m args below meth c H1 locs1 (cells + mc) (slots + ms) Q (F0 m pc ls rest) q9)
    (kk : ∀ (r : Int32) (u : S) (t : State) (H1 : Heap) (locs1 : List Loc), t.heap = H1 → s.vm.Alike t.vm → post r u → B u t → H.size ≤ H1.size → (∀ q : Nat, q < H.size → ¬ A1 q → H1[q]? = H[q]?) → va_S A0 H0 H1 locs1 → W p l e R s m args below meth c H1 locs1 (cells + mc) (slots + ms) Q (F0 m (pc + 3) ls (.int r :: rest))) : W p l e R s m args below meth c H locs cells slots Q (F0 m pc ls st0) := by
  intro T hT X
  rcases hr T hT X with ⟨v, st₀, t, T', L, h0, X', hL, e1, e2, ⟨⟨r, u, hv, hp, hb⟩, hF⟩, st⟩ | ⟨q, st₀, t, T', L, E, ce, h0, X', hL, e1, e2, ⟨u, hp, hb, hF⟩, hce, hcv, hcl, st⟩
  · cases hv
    obtain ⟨k1, k2, k3⟩ := vx_keep h0 e1 hS hA hf hL hF
    obtain ⟨t2, a1, b1⟩ := kk r u t T'.heap (locs ++ L) e1.symm (by rw [← e2]; exact X'.warmed.alike) hp hb k1 k2 k3 T' rfl X'
    exact ⟨t2, st t2 a1, b1⟩
  · obtain ⟨k1, k2, k3⟩ := vx_keep h0 e1 hS hAX hf hL hF
    obtain ⟨t2, a1, b1⟩ := kx E ce q u t T'.heap (locs ++ L) e1.symm (by rw [← e2]; exact X'.warmed.alike) hp hb k1 k2 k3 (by rw [e1]; exact hce) hcv hcl T' rfl X'
    exact ⟨t2, st.trans a1, b1⟩
theorem vx_calll {S SX : Type} {post : Int64 → S → Prop} {px : SX → Prop} {B : S → State → Prop} {BX : String → SX → State → Prop} {AX : Nat → Prop} (hr : vx_Run p l e R s m args below meth c H locs cells slots mc ms (F0 m pc ls st0) rest (va_Ql post B A1 a) (vx_X px BX AX) free) (hS : va_S A0 H0 H locs) (hA : ∀ q, q < H.size → A1 q → A0 q) (hf : ∀ q, free q → A0 q) (hAX : ∀ q, q < H.size → AX q → A0 q)
    (kx : ∀ (E : String) (ce : Cell) (q9 : Addr) (u : SX) (t : State) (H1 : Heap) (locs1 : List Loc), t.heap = H1 → s.vm.Alike t.vm → px u → BX E u t → H.size ≤ H1.size → (∀ q : Nat, q < H.size → ¬ AX q → H1[q]? = H[q]?) → va_S A0 H0 H1 locs1 → H1[q9]? = some ce → ce.vm = .none → s.vm.findClass E = some ce.cls → vx_W p l e R s m args below meth c H1 locs1 (cells + mc) (slots + ms) Q (F0 m pc ls rest) q9)
    (kk : ∀ (r : Int64) (u : S) (t : State) (H1 : Heap) (locs1 : List Loc), t.heap = H1 → s.vm.Alike t.vm → post r u → B u t → H.size ≤ H1.size → (∀ q : Nat, q < H.size → ¬ A1 q → H1[q]? = H[q]?) → va_S A0 H0 H1 locs1 → W p l e R s m args below meth c H1 locs1 (cells + mc) (slots + ms) Q (F0 m (pc + 3) ls (.long r :: rest))) : W p l e R s m args below meth c H locs cells slots Q (F0 m pc ls st0) := by
  intro T hT X
  rcases hr T hT X with ⟨v, st₀, t, T', L, h0, X', hL, e1, e2, ⟨⟨r, u, hv, hp, hb⟩, hF⟩, st⟩ | ⟨q, st₀, t, T', L, E, ce, h0, X', hL, e1, e2, ⟨u, hp, hb, hF⟩, hce, hcv, hcl, st⟩
  · cases hv
    obtain ⟨k1, k2, k3⟩ := vx_keep h0 e1 hS hA hf hL hF
    obtain ⟨t2, a1, b1⟩ := kk r u t T'.heap (locs ++ L) e1.symm (by rw [← e2]; exact X'.warmed.alike) hp hb k1 k2 k3 T' rfl X'
    exact ⟨t2, st t2 a1, b1⟩
  · obtain ⟨k1, k2, k3⟩ := vx_keep h0 e1 hS hAX hf hL hF
    obtain ⟨t2, a1, b1⟩ := kx E ce q u t T'.heap (locs ++ L) e1.symm (by rw [← e2]; exact X'.warmed.alike) hp hb k1 k2 k3 (by rw [e1]; exact hce) hcv hcl T' rfl X'
    exact ⟨t2, st.trans a1, b1⟩
theorem vx_callf {S SX : Type} {post : UInt32 → S → Prop} {px : SX → Prop} {B : S → State → Prop} {BX : String → SX → State → Prop} {AX : Nat → Prop} (hr : vx_Run p l e R s m args below meth c H locs cells slots mc ms (F0 m pc ls st0) rest (va_Qf post B A1 a) (vx_X px BX AX) free) (hS : va_S A0 H0 H locs) (hA : ∀ q, q < H.size → A1 q → A0 q) (hf : ∀ q, free q → A0 q) (hAX : ∀ q, q < H.size → AX q → A0 q)
    (kx : ∀ (E : String) (ce : Cell) (q9 : Addr) (u : SX) (t : State) (H1 : Heap) (locs1 : List Loc), t.heap = H1 → s.vm.Alike t.vm → px u → BX E u t → H.size ≤ H1.size → (∀ q : Nat, q < H.size → ¬ AX q → H1[q]? = H[q]?) → va_S A0 H0 H1 locs1 → H1[q9]? = some ce → ce.vm = .none → s.vm.findClass E = some ce.cls → vx_W p l e R s m args below meth c H1 locs1 (cells + mc) (slots + ms) Q (F0 m pc ls rest) q9)
    (kk : ∀ (r : UInt32) (u : S) (t : State) (H1 : Heap) (locs1 : List Loc), t.heap = H1 → s.vm.Alike t.vm → post r u → B u t → H.size ≤ H1.size → (∀ q : Nat, q < H.size → ¬ A1 q → H1[q]? = H[q]?) → va_S A0 H0 H1 locs1 → W p l e R s m args below meth c H1 locs1 (cells + mc) (slots + ms) Q (F0 m (pc + 3) ls (.float r :: rest))) : W p l e R s m args below meth c H locs cells slots Q (F0 m pc ls st0) := by
  intro T hT X
  rcases hr T hT X with ⟨v, st₀, t, T', L, h0, X', hL, e1, e2, ⟨⟨r, u, hv, hp, hb⟩, hF⟩, st⟩ | ⟨q, st₀, t, T', L, E, ce, h0, X', hL, e1, e2, ⟨u, hp, hb, hF⟩, hce, hcv, hcl, st⟩
  · cases hv
    obtain ⟨k1, k2, k3⟩ := vx_keep h0 e1 hS hA hf hL hF
    obtain ⟨t2, a1, b1⟩ := kk r u t T'.heap (locs ++ L) e1.symm (by rw [← e2]; exact X'.warmed.alike) hp hb k1 k2 k3 T' rfl X'
    exact ⟨t2, st t2 a1, b1⟩
  · obtain ⟨k1, k2, k3⟩ := vx_keep h0 e1 hS hAX hf hL hF
    obtain ⟨t2, a1, b1⟩ := kx E ce q u t T'.heap (locs ++ L) e1.symm (by rw [← e2]; exact X'.warmed.alike) hp hb k1 k2 k3 (by rw [e1]; exact hce) hcv hcl T' rfl X'
    exact ⟨t2, st.trans a1, b1⟩
theorem vx_calld {S SX : Type} {post : UInt64 → S → Prop} {px : SX → Prop} {B : S → State → Prop} {BX : String → SX → State → Prop} {AX : Nat → Prop} (hr : vx_Run p l e R s m args below meth c H locs cells slots mc ms (F0 m pc ls st0) rest (va_Qd post B A1 a) (vx_X px BX AX) free) (hS : va_S A0 H0 H locs) (hA : ∀ q, q < H.size → A1 q → A0 q) (hf : ∀ q, free q → A0 q) (hAX : ∀ q, q < H.size → AX q → A0 q)
    (kx : ∀ (E : String) (ce : Cell) (q9 : Addr) (u : SX) (t : State) (H1 : Heap) (locs1 : List Loc), t.heap = H1 → s.vm.Alike t.vm → px u → BX E u t → H.size ≤ H1.size → (∀ q : Nat, q < H.size → ¬ AX q → H1[q]? = H[q]?) → va_S A0 H0 H1 locs1 → H1[q9]? = some ce → ce.vm = .none → s.vm.findClass E = some ce.cls → vx_W p l e R s m args below meth c H1 locs1 (cells + mc) (slots + ms) Q (F0 m pc ls rest) q9)
    (kk : ∀ (r : UInt64) (u : S) (t : State) (H1 : Heap) (locs1 : List Loc), t.heap = H1 → s.vm.Alike t.vm → post r u → B u t → H.size ≤ H1.size → (∀ q : Nat, q < H.size → ¬ A1 q → H1[q]? = H[q]?) → va_S A0 H0 H1 locs1 → W p l e R s m args below meth c H1 locs1 (cells + mc) (slots + ms) Q (F0 m (pc + 3) ls (.double r :: rest))) : W p l e R s m args below meth c H locs cells slots Q (F0 m pc ls st0) := by
  intro T hT X
  rcases hr T hT X with ⟨v, st₀, t, T', L, h0, X', hL, e1, e2, ⟨⟨r, u, hv, hp, hb⟩, hF⟩, st⟩ | ⟨q, st₀, t, T', L, E, ce, h0, X', hL, e1, e2, ⟨u, hp, hb, hF⟩, hce, hcv, hcl, st⟩
  · cases hv
    obtain ⟨k1, k2, k3⟩ := vx_keep h0 e1 hS hA hf hL hF
    obtain ⟨t2, a1, b1⟩ := kk r u t T'.heap (locs ++ L) e1.symm (by rw [← e2]; exact X'.warmed.alike) hp hb k1 k2 k3 T' rfl X'
    exact ⟨t2, st t2 a1, b1⟩
  · obtain ⟨k1, k2, k3⟩ := vx_keep h0 e1 hS hAX hf hL hF
    obtain ⟨t2, a1, b1⟩ := kx E ce q u t T'.heap (locs ++ L) e1.symm (by rw [← e2]; exact X'.warmed.alike) hp hb k1 k2 k3 (by rw [e1]; exact hce) hcv hcl T' rfl X'
    exact ⟨t2, st.trans a1, b1⟩
theorem vx_callv {S SX : Type} {post : S → Prop} {px : SX → Prop} {B : S → State → Prop} {BX : String → SX → State → Prop} {AX : Nat → Prop} (hr : vx_Run p l e R s m args below meth c H locs cells slots mc ms (F0 m pc ls st0) rest (va_Qv post B A1 a) (vx_X px BX AX) free) (hS : va_S A0 H0 H locs) (hA : ∀ q, q < H.size → A1 q → A0 q) (hf : ∀ q, free q → A0 q) (hAX : ∀ q, q < H.size → AX q → A0 q)
    (kx : ∀ (E : String) (ce : Cell) (q9 : Addr) (u : SX) (t : State) (H1 : Heap) (locs1 : List Loc), t.heap = H1 → s.vm.Alike t.vm → px u → BX E u t → H.size ≤ H1.size → (∀ q : Nat, q < H.size → ¬ AX q → H1[q]? = H[q]?) → va_S A0 H0 H1 locs1 → H1[q9]? = some ce → ce.vm = .none → s.vm.findClass E = some ce.cls → vx_W p l e R s m args below meth c H1 locs1 (cells + mc) (slots + ms) Q (F0 m pc ls rest) q9)
    (kk : ∀ (u : S) (t : State) (H1 : Heap) (locs1 : List Loc), t.heap = H1 → s.vm.Alike t.vm → post u → B u t → H.size ≤ H1.size → (∀ q : Nat, q < H.size → ¬ A1 q → H1[q]? = H[q]?) → va_S A0 H0 H1 locs1 → W p l e R s m args below meth c H1 locs1 (cells + mc) (slots + ms) Q (F0 m (pc + 3) ls (rest))) : W p l e R s m args below meth c H locs cells slots Q (F0 m pc ls st0) := by
  intro T hT X
  rcases hr T hT X with ⟨v, st₀, t, T', L, h0, X', hL, e1, e2, ⟨⟨u, hv, hp, hb⟩, hF⟩, st⟩ | ⟨q, st₀, t, T', L, E, ce, h0, X', hL, e1, e2, ⟨u, hp, hb, hF⟩, hce, hcv, hcl, st⟩
  · cases hv
    obtain ⟨k1, k2, k3⟩ := vx_keep h0 e1 hS hA hf hL hF
    obtain ⟨t2, a1, b1⟩ := kk u t T'.heap (locs ++ L) e1.symm (by rw [← e2]; exact X'.warmed.alike) hp hb k1 k2 k3 T' rfl X'
    exact ⟨t2, st t2 a1, b1⟩
  · obtain ⟨k1, k2, k3⟩ := vx_keep h0 e1 hS hAX hf hL hF
    obtain ⟨t2, a1, b1⟩ := kx E ce q u t T'.heap (locs ++ L) e1.symm (by rw [← e2]; exact X'.warmed.alike) hp hb k1 k2 k3 (by rw [e1]; exact hce) hcv hcl T' rfl X'
    exact ⟨t2, st.trans a1, b1⟩
/-- caught by the row x of this method's table; the rows ahead don't take it -/
theorem vx_catch {own name : String} {E : String} {ce : Cell} {q : Addr} (hown : s.vm.findClass own = some m.cls) (pre : List ExceptionTableEntry) (x : ExceptionTableEntry) (suf : List ExceptionTableEntry) (hsplit : c.exceptionTable.toList = pre ++ x :: suf)
    (hpass : ∀ z ∈ pre, covers z pc = false ∨ (z.catchType ≠ 0 ∧ ∃ nm : String, (Cond.classLink own z.catchType nm).before args s = true ∧ va_Nc E nm s)) (hx : covers x pc = true) (h0 : x.catchType ≠ 0)
    (hlink : (Cond.classLink own x.catchType name).before args s = true) (hcast : (Cond.castable E name).before args s = true) (hcell : H[q]? = some ce) (hv : ce.vm = .none) (hcl : s.vm.findClass E = some ce.cls)
    (kk : W p l e R s m args below meth c H locs cells slots Q (F0 m x.handlerPc ls [.ref q])) : vx_W p l e R s m args below meth c H locs cells slots Q (F0 m pc ls rest) q := by
  intro T hT X
  have hpl : e.platform.magicAccessors = ({} : Platform).magicAccessors := by rw [X.admits.platform]
  obtain ⟨c3, c4, hc3, hc4, hasg⟩ := Cond.castable_spec hcast
  cases Option.some.inj (hc3.symm.trans hcl)
  obtain ⟨c5, hc5, hcl5⟩ := Cond.classLink_spec hown hlink e.platform hpl
  cases Option.some.inj (hc4.symm.trans hc5)
  obtain ⟨vm', X', st⟩ := X.thenCaughtThrough q (g := F0 m pc ls rest) rfl (Steps.refl _) (by rw [hT]; exact hcell) (by rw [hv]; rfl) (by obtain ⟨k9, h9, -⟩ := Vm.findClass_spec hcl; exact ⟨k9, h9⟩) pre x suf hsplit
    (fun z hz => by
      rcases hpass z hz with h | ⟨hz0, nm, hl1, hn1⟩
      · exact Or.inl h
      · obtain ⟨c6, hc6, hcl6⟩ := Cond.classLink_spec hown hl1 e.platform hpl
        obtain ⟨a8, b8, h1, h2, h3⟩ := hn1
        cases Option.some.inj (h1.symm.trans hcl)
        cases Option.some.inj (h2.symm.trans hc6)
        exact Or.inr ⟨hz0, _, hcl6, h3⟩) hx (Or.inr ⟨h0, c4, hcl5, hasg⟩)
  obtain ⟨t, a1, b1⟩ := kk (T.setVm vm') hT X'
  exact ⟨t, st.trans a1, b1⟩
end Rows
section Ends
variable {p : Program} {l : Launch} {e : Env} {R : Room} {s : State} {m : MethodId} {args : Array Value} {below : List Frame} {meth : Method} {c : Code} {H : Heap} {locs : List Loc} {cells slots : Nat} {Q : State → Prop}
variable {mc ms : Nat} {free : Addr → Prop} {A0 A1 : Nat → Prop} {H0 : Heap} {a : Array Value} {ls : Array Slot} {st0 rest : List Value}
variable {Qc : Array Value → State → Outcome → State → Prop} {XC : String → State → State → Prop}
/-- what a body that may throw owes at its end -/
def vx_MQ (below : List Frame) (Qc : Array Value → State → Outcome → State → Prop) (XC : String → State → State → Prop) (a : Array Value) (s : State) (mc ms : Nat) (free : Addr → Prop) : State → Prop := fun t =>
  ∃ o, t.status = .running ∧ Ended t below o ∧ vx_Q Qc XC mc ms free a s o t
theorem vx_ret {g : JFrame} {mc ms : Nat} (k : W p l e R s m args below meth c H locs cells slots (MQ below Qc args s mc ms free) g) : W p l e R s m args below meth c H locs cells slots (vx_MQ below Qc XC args s mc ms free) g := by
  intro T hT X
  obtain ⟨t, a1, o, b1, b2, b3, b4⟩ := k T hT X
  exact ⟨t, a1, o, b1, b2, Or.inl ⟨b3, b4⟩⟩
/-- not caught here: it goes on to the caller -/
theorem vx_widen {g : JFrame} {q : Addr} {k n : Nat} (h1 : cells ≤ k) (h2 : slots ≤ n) (kk : vx_W p l e R s m args below meth c H locs k n Q g q) : vx_W p l e R s m args below meth c H locs cells slots Q g q := fun T hT X => kk T hT (stand_widen X h1 h2)
theorem vx_out {pc : Nat} {E : String} {ce : Cell} {q : Addr} {mc ms : Nat} (hout : ∀ x ∈ c.exceptionTable.toList, covers x pc = false) (hlocks : meth.locks = false) (hcell : H[q]? = some ce) (hv : ce.vm = .none) (hcl : s.vm.findClass E = some ce.cls)
    (hx : ∀ t : State, t.heap = H → s.vm.Alike t.vm → XC E s t) (hf : ∀ z ∈ locs, free z.base) (hc : cells ≤ mc) (hs : slots ≤ ms) :
    vx_W p l e R s m args below meth c H locs cells slots (vx_MQ below Qc XC args s mc ms free) (F0 m pc ls rest) q := by
  intro T hT X
  obtain ⟨st1, hrun, hend, hW, hsm⟩ := X.leaveThrown q (g := F0 m pc ls rest) rfl rfl rfl hout hlocks
  have hcell9 : (T.setFrames (.throwing q :: below)).heap[q]? = some ce := by
    show T.heap[q]? = some ce
    rw [hT]; exact hcell
  exact ⟨_, st1, .threw q, hrun, hend, Or.inr ⟨q, rfl, E, ce, locs, hx _ hT hW.alike, hcell9, hv, hcl, hW, hsm.mono hc hs, hf⟩⟩
theorem vx_frame {U : State} {k n : Nat} (h : s.sameButNew ({ U with vm := s.vm } : State) locs k n) : s.heap.size ≤ U.heap.size ∧ ∀ q : Nat, q < s.heap.size → (∀ z ∈ locs, z.base ≠ q) → U.heap[q]? = s.heap[q]? := by
  obtain ⟨-, h2, -, -, -, h6⟩ := h
  refine ⟨h2, fun q hq hz => ?_⟩
  obtain ⟨c9, e1, e2, e3, e4⟩ := h6 q _ (Array.getElem?_eq_getElem hq)
  have hs : c9.slots = (s.heap[q]).slots := Array.ext_getElem? fun i => e4 i fun hm => hz _ hm rfl
  have h9 : c9 = s.heap[q] := by
    rw [hs] at e2
    exact e2
  have e5 : U.heap[q]? = some c9 := e1
  rw [e5, h9, Array.getElem?_eq_getElem hq]
/-- the words of a throw but the four that speak of the heap -/
def vx_no (w : Cond) : Bool := decide (w ≠ .isRef (.static Bundle.tN "UNASSIGNED_STACK" Bundle.steD)) && decide (w ≠ .isRef (.static Bundle.tN "SUPPRESSED_SENTINEL" Bundle.listD)) && decide (w ≠ .laysStatic Bundle.tN "UNASSIGNED_STACK" Bundle.steD) && decide (w ≠ .laysStatic Bundle.tN "SUPPRESSED_SENTINEL" Bundle.listD)
def vx_at0 (own : String) (ic : Nat) (X : String) (names : List String) : List Cond := (Bundle.ownAtoms0 own ic X names).filter vx_no
def vx_atS (own : String) (ic : Nat) (X : String) (names : List String) : List Cond := (Bundle.ownAtoms own ic X names).filter vx_no
/-- a word that the tables alone decide, or a good one -/
def vx_ot (w : Cond) : Bool := w.onTables || goodWord w
theorem vx_ot_at {args a' : Array Value} {s U : State} {w : Cond} (hW : s.WarmedH U.vm) (hvm : s.vm = U.vm) (hg : vx_ot w = true) (h : w.before args s = true) : w.before a' U = true := by
  simp only [vx_ot, Bool.or_eq_true] at hg
  rcases hg with hg | hg
  · exact va_tabs hg hvm h
  · exact word_at hW (good_of_word hg) h
/-- a list's words: the good ones out of the method's own list, the others by premises of their own -/
theorem vx_hat {args : Array Value} {s : State} {L B : List Cond} (h1 : ∀ w ∈ L.filter goodWord, w.before args s = true) (h2 : ∀ w ∈ L.filter (fun w => !goodWord w), w ∈ B) (h3 : ∀ w ∈ B, w.before args s = true) : ∀ w ∈ L, w.before args s = true := by
  intro w hw
  by_cases g : goodWord w = true
  · exact h1 w (List.mem_filter.mpr ⟨hw, g⟩)
  · refine h3 w (h2 w (List.mem_filter.mpr ⟨hw, ?_⟩))
    show (!goodWord w) = true
    cases hgw : goodWord w
    · rfl
    · exact absurd hgw g
theorem vx_c {args : Array Value} {s : State} {w : Cond} {B : List Cond} (h : w.before args s = true) (t : ∀ w ∈ B, w.before args s = true) : ∀ w' ∈ w :: B, w'.before args s = true := fun w' h' => (List.mem_cons.mp h').elim (fun e => by rw [e]; exact h) (t w')
theorem vx_n {args : Array Value} {s : State} : ∀ w ∈ ([] : List Cond), w.before args s = true := fun _ h => nomatch h
theorem vx_own {args : Array Value} {s : State} {L : List Cond} (h1 : ∀ w ∈ L.filter vx_no, w.before args s = true)
    (hU : (Cond.isRef (.static Bundle.tN "UNASSIGNED_STACK" Bundle.steD)).before args s = true) (hN : (Cond.isRef (.static Bundle.tN "SUPPRESSED_SENTINEL" Bundle.listD)).before args s = true)
    (lU : (Cond.laysStatic Bundle.tN "UNASSIGNED_STACK" Bundle.steD).before args s = true) (lN : (Cond.laysStatic Bundle.tN "SUPPRESSED_SENTINEL" Bundle.listD).before args s = true) : ∀ w ∈ L, w.before args s = true := by
  intro w hw
  by_cases e1 : w = .isRef (.static Bundle.tN "UNASSIGNED_STACK" Bundle.steD)
  · rw [e1]; exact hU
  · by_cases e2 : w = .isRef (.static Bundle.tN "SUPPRESSED_SENTINEL" Bundle.listD)
    · rw [e2]; exact hN
    · by_cases e3 : w = .laysStatic Bundle.tN "UNASSIGNED_STACK" Bundle.steD
      · rw [e3]; exact lU
      · by_cases e4 : w = .laysStatic Bundle.tN "SUPPRESSED_SENTINEL" Bundle.listD
        · rw [e4]; exact lN
        · exact h1 w (List.mem_filter.mpr ⟨hw, by unfold vx_no; rw [decide_eq_true e1, decide_eq_true e2, decide_eq_true e3, decide_eq_true e4]; rfl⟩)
/-- where a static field lies, its class's statics cell in H -/
def vx_L (C n d : String) (A : Nat → Prop) (U : State) (H : Heap) : Prop := ∃ (c : ClassId) (k : Class) (i : Nat) (f : Field) (a : Nat) (cell : Cell), U.vm.findClass C = some c ∧ U.fieldFound? C n d = some (c, k, i, f) ∧ f.isStatic = true ∧ k.statics = some a ∧ H[a]? = some cell ∧ cell.vm.isStatics = true ∧ cell.cls = c ∧ f.slot < cell.slots.size ∧ k.staticTypes[f.slot]? = some f.type ∧ ¬ A a
theorem vx_L.moved {C n d : String} {A : Nat → Prop} {u U : State} {H : Heap} (hvm : u.vm.Alike U.vm) (h : vx_L C n d A u H) : vx_L C n d A U H := by
  obtain ⟨c, k, i, f, a, cell, h1, h2, h3, h4, h5, h6, h7, h8, h9, h10⟩ := h
  obtain ⟨k', hi', he⟩ := State.fieldFound?_setVm hvm h2
  exact ⟨c, k', i, f, a, cell, by rw [hvm.findClass]; exact h1, hi', h3, by rw [he]; exact h4, h5, h6, h7, h8, by rw [he]; exact h9, h10⟩
theorem vx_L.kept {C n d : String} {A : Nat → Prop} {U : State} {H H1 : Heap} (h : vx_L C n d A U H) (hq : ∀ a : Nat, a < H.size → ¬ A a → H1[a]? = H[a]?) : vx_L C n d A U H1 := by
  obtain ⟨c, k, i, f, a, cell, h1, h2, h3, h4, h5, h6, h7, h8, h9, h10⟩ := h
  exact ⟨c, k, i, f, a, cell, h1, h2, h3, h4, by rw [hq a (Array.getElem?_eq_some_iff.mp h5).1 h10]; exact h5, h6, h7, h8, h9, h10⟩
theorem vx_L.narrow {C n d : String} {A B : Nat → Prop} {U : State} {H : Heap} (h : vx_L C n d A U H) (hAB : ∀ q, B q → A q) : vx_L C n d B U H := by
  obtain ⟨c, k, i, f, a, cell, h1, h2, h3, h4, h5, h6, h7, h8, h9, h10⟩ := h
  exact ⟨c, k, i, f, a, cell, h1, h2, h3, h4, h5, h6, h7, h8, h9, fun z => h10 (hAB _ z)⟩
theorem vx_L.word {C n d : String} {A : Nat → Prop} {s : State} {args : Array Value} (h : vx_L C n d A s s.heap) : (Cond.laysStatic C n d).before args s = true := by
  obtain ⟨c, k, i, f, a, cell, h1, h2, h3, h4, h5, h6, h7, h8, h9, -⟩ := h
  show (Cond.laysStatic C n d).holds args s none s [] = true
  exact Cond.laysStatic_of h1 h2 h3 h4 h5 h6 h7 h8 h9
/-- .. and what it holds: null or some reference -/
def vx_Zq (C n d : String) (A : Nat → Prop) (U : State) (H : Heap) : Prop := va_Zq C n d A U H ∧ vx_L C n d A U H
theorem vx_Zq.moved {C n d : String} {A : Nat → Prop} {u U : State} {H : Heap} (hvm : u.vm.Alike U.vm) (h : vx_Zq C n d A u H) : vx_Zq C n d A U H := ⟨va_Zq.moved hvm h.1, vx_L.moved hvm h.2⟩
theorem vx_Zq.kept {C n d : String} {A : Nat → Prop} {U : State} {H H1 : Heap} (h : vx_Zq C n d A U H) (hq : ∀ a : Nat, a < H.size → ¬ A a → H1[a]? = H[a]?) : vx_Zq C n d A U H1 := ⟨va_Zq.kept h.1 hq, vx_L.kept h.2 hq⟩
theorem vx_Zq.narrow {C n d : String} {A B : Nat → Prop} {U : State} {H : Heap} (h : vx_Zq C n d A U H) (hAB : ∀ q, B q → A q) : vx_Zq C n d B U H := ⟨va_Zq.narrow h.1 hAB, vx_L.narrow h.2 hAB⟩
theorem vx_Zqof {args : Array Value} {s : State} {C n d : String} {A : Nat → Prop} (hl : (Cond.laysStatic C n d).before args s = true) (hini : (Cond.initialized C).before args s = true) (h : (Cond.isRef (.static C n d)).before args s = true) (hA : ∀ a : Nat, a < s.heap.size → ¬ A a) : vx_Zq C n d A s s.heap := by
  refine ⟨va_Zqof hl hini h hA, ?_⟩
  obtain ⟨c, k, i, f, a, cell, h1, h2, h3, h4, h5, h6, h7, h8, h9⟩ := Cond.laysStatic_spec hl
  exact ⟨c, k, i, f, a, cell, h1, h2, h3, h4, h5, h6, h7, h8, h9, hA a (Array.getElem?_eq_some_iff.mp h5).1⟩
theorem vx_isRef {C n d : String} {v : Value} {A : Nat → Prop} {s : State} {args : Array Value} (h : va_Z C n d v A s s.heap) (hv : v.isRef = true) : (Cond.isRef (.static C n d)).before args s = true := by
  obtain ⟨cf, kf, fi, f, a, cell, h1, h2, h3, h4, h5, h6, h7, -⟩ := h
  have he : (Term.static C n d).eval args s none [] s = some v := by
    simp [Term.eval, State.fieldNamed?, h1, h2, h4, h5, h6, h7]
  simp only [Cond.before, Cond.holds, Cond.value, he]
  cases v <;> simp_all [Value.isRef]
theorem vx_isRefq {C n d : String} {A : Nat → Prop} {s : State} {args : Array Value} (h : va_Zq C n d A s s.heap) : (Cond.isRef (.static C n d)).before args s = true := by
  rcases h with h | ⟨t, h⟩
  · exact vx_isRef h rfl
  · exact vx_isRef h rfl
/-- the same frame, seen from here: as if the method were called anew in this heap -/
theorem vx_rebase {T : State} (X : Stand p l e R s m args below meth c T locs cells slots) {R' : Room} (hf : R'.frames ≤ R.frames) (hl : R'.locals ≤ R.locals) (hc : cells + R'.cells ≤ R.cells) (hs : slots + R'.slots ≤ R.slots) :
    Stand p l e R' ((T.setVm s.vm).setFrames (.invoking m args :: below)) m args below meth c T [] 0 0 := by
  have htop : (T.setVm s.vm).topJava?.isSome := X.here.top
  have hF : ((T.setVm s.vm).setFrames (.invoking m args :: below)).frames = .invoking m args :: below := State.frames_setFrames _ (State.cur_lt_of_top htop)
  obtain ⟨g₀, hg0⟩ := Option.isSome_iff_exists.mp htop
  obtain ⟨r, hr⟩ := State.topJava?_eq_some.mp hg0
  have hl9 : e.platform.stackLimits (T.setVm s.vm).me = e.platform.stackLimits s.me := X.limits
  have hb9 : (T.setVm s.vm).me.stackBytes = s.me.stackBytes := X.bytes
  refine ⟨X.admits, X.cas, X.clock, hF, ?_, X.hears, X.method, X.code, X.here, X.tail, X.warmed, ?_, ?_, ?_⟩
  · have h := X.room
    have hU : ((T.setVm s.vm).setFrames (.invoking m args :: below)).localsInUse = s.localsInUse := by
      rw [State.localsInUse_invoking hF (meth := meth) (c := c) X.method X.code, State.localsInUse_invoking X.frames X.method X.code]
    simp only [State.hasRoom, Bool.and_eq_true, decide_eq_true_eq] at h ⊢
    obtain ⟨⟨⟨⟨h1, h2, h3, h4, h5, h6⟩, h7⟩, h8⟩, h9⟩ := h
    rw [X.frames, List.length_cons] at h2 h3
    have q1 := X.heapSize
    have q2 := X.used
    simp only [hF, hU, List.length_cons, State.stackLimits_setFrames, State.stackBytes_setFrames, hl9, hb9]
    refine ⟨⟨⟨⟨by omega, by omega, by omega, by omega, by omega, h6⟩, ?_⟩, ?_⟩, X.book⟩
    · show T.heap.size + R'.cells ≤ e.platform.maxCells
      omega
    · show T.slotsUsed + R'.slots ≤ e.platform.maxSlots
      omega
  · rw [State.stackLimits_setFrames]; rfl
  · rw [State.stackBytes_setFrames]; rfl
  · refine ⟨?_, Nat.le_refl _, Nat.le_refl _, ?_, ?_, fun a c9 h9 => ⟨c9, h9, rfl, rfl, fun _ _ => rfl⟩⟩
    · obtain ⟨t, ht, -⟩ := State.frames_cons hr
      show T.setVm s.vm = { ((T.setVm s.vm).setFrames (.invoking m args :: below)).setFrames (T.setVm s.vm).frames with heap := T.heap, slotsUsed := T.slotsUsed }
      rw [State.setFrames_setFrames, State.setFrames_self ht]
      rfl
    · show T.slotsUsed = T.slotsUsed + ((T.heap.toList.drop T.heap.size).map (·.slots.size)).sum
      rw [List.drop_eq_nil_of_le (Nat.le_of_eq Array.length_toList)]
      rfl
    · show ((T.heap.toList.drop T.heap.size).map (·.slots.size)).sum ≤ 0
      rw [List.drop_eq_nil_of_le (Nat.le_of_eq Array.length_toList)]
      exact Nat.le_refl _
/-- 'throw new E()': new; dup; invokespecial; athrow -/
theorem vx_throw0 {cc : ByteArray} {pc : Nat} (hexec : p.tables.exec = Jvm.exec) (hb : c.code = cc) (hl : l.stackTraces = false) {own cls : String} {names : List String} {ik ic mc ms : Nat} {A : Nat → Prop}
    (hown : s.vm.findClass own = some m.cls) (hcls : Bundle.fit cls = true) (hnames : ∀ n ∈ names, Bundle.fit n = true)
    (hk : (Cond.classLink own ik cls).before args s = true) (hini : (Cond.initialized cls).before args s = true) (hat : ∀ w ∈ vx_at0 own ic cls names, w.before args s = true)
    (hgood : ∀ w ∈ Cond.classLink own ik cls :: Cond.initialized cls :: vx_at0 own ic cls names, vx_ot w = true)
    (hU : vx_Zq Bundle.tN "UNASSIGNED_STACK" Bundle.steD A s s.heap) (hN : vx_Zq Bundle.tN "SUPPRESSED_SENTINEL" Bundle.listD A s s.heap) (hS : va_S A s.heap H locs) (hsize : ls.size = c.maxLocals)
    (d0 : decode cc pc = .ok (.new ik, 3)) (d3 : decode cc (pc + 3) = .ok (.dup, 1)) (d4 : decode cc (pc + 4) = .ok (.invokespecial ic, 3)) (d7 : decode cc (pc + 7) = .ok (.athrow, 1))
    (hout : ∀ x ∈ c.exceptionTable.toList, covers x (pc + 7) = false)
    (hRframes : names.length + 3 < R.frames) (hRlocals : (rest.map fun v => v.category).sum + (13 * (names.length + 1) + 42) ≤ R.locals) (hRcells : cells + 1 ≤ R.cells) (hRslots : slots + 6 ≤ R.slots) (hlocks : meth.locks = false)
    (hx : ∀ t : State, s.vm.Alike t.vm → H.size ≤ t.heap.size → (∀ q : Nat, q < H.size → t.heap[q]? = H[q]?) → XC cls s t)
    (hf : ∀ z ∈ locs, free z.base) (hc : cells + 1 ≤ mc) (hs : slots + 6 ≤ ms) :
    W p l e R s m args below meth c H locs cells slots (vx_MQ below Qc XC args s mc ms free) (F0 m pc ls rest) := by
  intro T hT X
  have htr : e.platform.stackTraces = false := (show e.platform.stackTraces = l.stackTraces by rw [X.admits.platform]).trans hl
  have Y := vx_rebase X (R' := { frames := R.frames, locals := R.locals, cells := 1, slots := 6 }) (Nat.le_refl _) (Nat.le_refl _) hRcells hRslots
  obtain ⟨s', hA⟩ : ∃ z, z = (T.setVm s.vm).setFrames (.invoking m args :: below) := ⟨_, rfl⟩
  rw [← hA] at Y
  have hvm : s'.vm = s.vm := by rw [hA]; rfl
  have hhp : s'.heap = H := by rw [hA]; exact hT
  have hW0 : s.WarmedH s'.vm := by rw [hvm]; exact State.WarmedH.refl s
  have hat' : ∀ w ∈ vx_at0 own ic cls names, w.before args s' = true := fun w hw => vx_ot_at hW0 hvm.symm (hgood w (List.mem_cons_of_mem _ (List.mem_cons_of_mem _ hw))) (hat w hw)
  have hk' : (Cond.classLink own ik cls).before args s' = true := vx_ot_at hW0 hvm.symm (hgood _ List.mem_cons_self) hk
  have hini' : (Cond.initialized cls).before args s' = true := vx_ot_at hW0 hvm.symm (hgood _ (List.mem_cons_of_mem _ List.mem_cons_self)) hini
  have hU' : vx_Zq Bundle.tN "UNASSIGNED_STACK" Bundle.steD A s' s'.heap := by rw [hhp]; exact vx_Zq.moved hW0.alike (hU.kept hS.2.1)
  have hN' : vx_Zq Bundle.tN "SUPPRESSED_SENTINEL" Bundle.listD A s' s'.heap := by rw [hhp]; exact vx_Zq.moved hW0.alike (hN.kept hS.2.1)
  have h : ∀ w ∈ Bundle.ownAtoms0 own ic cls names, w.before args s' = true := vx_own hat' (vx_isRefq hU'.1) (vx_isRefq hN'.1) hU'.2.word hN'.2.word
  have hown' : s'.vm.findClass own = some m.cls := by rw [hvm]; exact hown
  have hins : (Cond.instantiable cls 6).before args s' = true := h _ (by simp [Bundle.ownAtoms0])
  obtain ⟨vm₁, cX, kX, hfX, hkX, -, -, X₁, st1⟩ := Y.newCold hexec (own := own) (C := cls) (index := ik) (n := 6) hown' hk' hins hini'
    (g := F0 m pc ls rest) rfl (by rw [hb]; exact d0) (Nat.le_refl _) (Nat.le_refl _)
  generalize hT1 : (T.setVm vm₁).pushCell { cls := cX, slots := kX.instanceTypes.map defaultValue, vm := .none } = T1 at X₁ st1
  have hcat : (Value.ref T.heap.size).category = 1 := rfl
  have hcellA : T1.heap[T.heap.size]? = some (freshCell cX kX) := by rw [← hT1]; exact State.heap_pushCell_size _ _
  have d3' : decode c.code (pc + 3) = .ok (.dup, 1) := by rw [hb]; exact d3
  obtain ⟨U, hsteps, hrun, hend, hW, hsame, ce, hce, hO⟩ := X₁.ctorThrow0 hexec htr (own := own) (cls := cls) (names := names) (ic := ic) hown' hcls hnames h (fun x hx => nomatch hx) hfX hkX hcellA (by rw [hhp, hT]; exact Nat.le_refl _)
    (g := { method := m, pc := pc + 4, locals := ls, stack := .ref T.heap.size :: .ref T.heap.size :: rest, locked := none }) rfl hsize rfl rfl (rest := rest) rfl
    (by rw [hb]; exact d4) (by rw [hb]; exact d7) hout hRframes (by simp only [List.map_cons, List.sum_cons, hcat]; omega) hlocks
  obtain ⟨f1, f2⟩ := vx_frame hsame
  rw [hhp] at f1 f2
  have hWs : s.WarmedH U.vm := State.WarmedH.trans hW0 hW
  have hcl : s.vm.findClass cls = some ce.cls := by
    have h9 := hO.cls
    rw [hvm] at h9
    exact h9
  have hall : s.sameButNew ({ U with vm := s.vm } : State) locs mc ms := by
    subst hA
    obtain ⟨e1, e2⟩ := hsame
    rw [State.setFrames_setFrames] at e1
    have h2 : (T.setVm s.vm).sameButNew ({ U with vm := s.vm } : State) [] (0 + 1) (0 + 6) := ⟨e1, e2⟩
    have h3 := X.same.trans h2
    rw [List.append_nil] at h3
    exact h3.mono hc hs
  refine ⟨U, ?_, .threw T.heap.size, hrun, hend, Or.inr ⟨T.heap.size, rfl, cls, ce, locs, hx U hWs.alike f1 (fun q hq => f2 q hq (fun z hz => nomatch hz)), hce, hO.vm, hcl, hWs, hall, hf⟩⟩
  refine st1 _ ?_
  show Steps p.tables e below (T1.setTop { method := m, pc := pc + 3, locals := ls, stack := .ref T.heap.size :: rest, locked := none }) _
  jvm_step X₁.here [X₁.here.top, hexec, d3', Value.category]
  exact hsteps
/-- 'throw new E("text")': new; dup; ldc; invokespecial; athrow -/
theorem vx_throwS {cc : ByteArray} {pc : Nat} (hexec : p.tables.exec = Jvm.exec) (hb : c.code = cc) (hl : l.stackTraces = false) {own cls text : String} {names : List String} {ik is ic mc ms sa : Nat} {A : Nat → Prop}
    (hown : s.vm.findClass own = some m.cls) (hcls : Bundle.fit cls = true) (hnames : ∀ n ∈ names, Bundle.fit n = true)
    (hk : (Cond.classLink own ik cls).before args s = true) (hini : (Cond.initialized cls).before args s = true) (hstr : vk_R own is text sa s) (hat : ∀ w ∈ vx_atS own ic cls names, w.before args s = true)
    (hgood : ∀ w ∈ Cond.classLink own ik cls :: Cond.initialized cls :: vx_atS own ic cls names, vx_ot w = true)
    (hU : vx_Zq Bundle.tN "UNASSIGNED_STACK" Bundle.steD A s s.heap) (hN : vx_Zq Bundle.tN "SUPPRESSED_SENTINEL" Bundle.listD A s s.heap) (hS : va_S A s.heap H locs) (hsize : ls.size = c.maxLocals)
    (d0 : decode cc pc = .ok (.new ik, 3)) (d3 : decode cc (pc + 3) = .ok (.dup, 1)) (d4 : decode cc (pc + 4) = .ok (.ldc is, 2)) (d6 : decode cc (pc + 6) = .ok (.invokespecial ic, 3)) (d9 : decode cc (pc + 9) = .ok (.athrow, 1))
    (hout : ∀ x ∈ c.exceptionTable.toList, covers x (pc + 9) = false)
    (hRframes : names.length + 3 < R.frames) (hRlocals : (rest.map fun v => v.category).sum + (13 * (names.length + 1) + 43) ≤ R.locals) (hRcells : cells + 1 ≤ R.cells) (hRslots : slots + 6 ≤ R.slots) (hlocks : meth.locks = false)
    (hx : ∀ t : State, s.vm.Alike t.vm → H.size ≤ t.heap.size → (∀ q : Nat, q < H.size → t.heap[q]? = H[q]?) → XC cls s t)
    (hf : ∀ z ∈ locs, free z.base) (hc : cells + 1 ≤ mc) (hs : slots + 6 ≤ ms) :
    W p l e R s m args below meth c H locs cells slots (vx_MQ below Qc XC args s mc ms free) (F0 m pc ls rest) := by
  intro T hT X
  have htr : e.platform.stackTraces = false := (show e.platform.stackTraces = l.stackTraces by rw [X.admits.platform]).trans hl
  have Y := vx_rebase X (R' := { frames := R.frames, locals := R.locals, cells := 1, slots := 6 }) (Nat.le_refl _) (Nat.le_refl _) hRcells hRslots
  obtain ⟨s', hA⟩ : ∃ z, z = (T.setVm s.vm).setFrames (.invoking m args :: below) := ⟨_, rfl⟩
  rw [← hA] at Y
  have hvm : s'.vm = s.vm := by rw [hA]; rfl
  have hhp : s'.heap = H := by rw [hA]; exact hT
  have hW0 : s.WarmedH s'.vm := by rw [hvm]; exact State.WarmedH.refl s
  have hat' : ∀ w ∈ vx_atS own ic cls names, w.before args s' = true := fun w hw => vx_ot_at hW0 hvm.symm (hgood w (List.mem_cons_of_mem _ (List.mem_cons_of_mem _ hw))) (hat w hw)
  have hk' : (Cond.classLink own ik cls).before args s' = true := vx_ot_at hW0 hvm.symm (hgood _ List.mem_cons_self) hk
  have hini' : (Cond.initialized cls).before args s' = true := vx_ot_at hW0 hvm.symm (hgood _ (List.mem_cons_of_mem _ List.mem_cons_self)) hini
  have hU' : vx_Zq Bundle.tN "UNASSIGNED_STACK" Bundle.steD A s' s'.heap := by rw [hhp]; exact vx_Zq.moved hW0.alike (hU.kept hS.2.1)
  have hN' : vx_Zq Bundle.tN "SUPPRESSED_SENTINEL" Bundle.listD A s' s'.heap := by rw [hhp]; exact vx_Zq.moved hW0.alike (hN.kept hS.2.1)
  have h : ∀ w ∈ Bundle.ownAtoms own ic cls names, w.before args s' = true := vx_own hat' (vx_isRefq hU'.1) (vx_isRefq hN'.1) hU'.2.word hN'.2.word
  have hown' : s'.vm.findClass own = some m.cls := by rw [hvm]; exact hown
  have hins : (Cond.instantiable cls 6).before args s' = true := h _ (by simp [Bundle.ownAtoms])
  obtain ⟨vm₁, cX, kX, hfX, hkX, -, -, X₁, st1⟩ := Y.newCold hexec (own := own) (C := cls) (index := ik) (n := 6) hown' hk' hins hini'
    (g := F0 m pc ls rest) rfl (by rw [hb]; exact d0) (Nat.le_refl _) (Nat.le_refl _)
  generalize hT1 : (T.setVm vm₁).pushCell { cls := cX, slots := kX.instanceTypes.map defaultValue, vm := .none } = T1 at X₁ st1
  have hcat : (Value.ref T.heap.size).category = 1 := rfl
  have hcellA : T1.heap[T.heap.size]? = some (freshCell cX kX) := by rw [← hT1]; exact State.heap_pushCell_size _ _
  have d3' : decode c.code (pc + 3) = .ok (.dup, 1) := by rw [hb]; exact d3
  have d4' : decode c.code (pc + 4) = .ok (.ldc is, 2) := by rw [hb]; exact d4
  have hstr' : vk_R own is text sa s' := vk_R.warm hW0 hstr
  obtain ⟨U, hsteps, hrun, hend, hW, hsame, ce, hce, hO⟩ := X₁.ctorThrowS hexec htr (own := own) (cls := cls) (names := names) (ic := ic) hown' hcls hnames h (fun x hx => nomatch hx) hfX hkX hcellA (by rw [hhp, hT]; exact Nat.le_refl _) (msg := .ref sa) rfl
    (g := { method := m, pc := pc + 6, locals := ls, stack := .ref sa :: .ref T.heap.size :: .ref T.heap.size :: rest, locked := none }) rfl hsize rfl rfl (rest := rest) rfl
    (by rw [hb]; exact d6) (by rw [hb]; exact d9) hout hRframes (by simp only [List.map_cons, List.sum_cons, hcat]; omega) hlocks
  obtain ⟨f1, f2⟩ := vx_frame hsame
  rw [hhp] at f1 f2
  have hWs : s.WarmedH U.vm := State.WarmedH.trans hW0 hW
  have hcl : s.vm.findClass cls = some ce.cls := by
    have h9 := hO.cls
    rw [hvm] at h9
    exact h9
  have hall : s.sameButNew ({ U with vm := s.vm } : State) locs mc ms := by
    subst hA
    obtain ⟨e1, e2⟩ := hsame
    rw [State.setFrames_setFrames] at e1
    have h2 : (T.setVm s.vm).sameButNew ({ U with vm := s.vm } : State) [] (0 + 1) (0 + 6) := ⟨e1, e2⟩
    have h3 := X.same.trans h2
    rw [List.append_nil] at h3
    exact h3.mono hc hs
  refine ⟨U, ?_, .threw T.heap.size, hrun, hend, Or.inr ⟨T.heap.size, rfl, cls, ce, locs, hx U hWs.alike f1 (fun q hq => f2 q hq (fun z hz => nomatch hz)), hce, hO.vm, hcl, hWs, hall, hf⟩⟩
  refine st1 _ ?_
  show Steps p.tables e below (T1.setTop { method := m, pc := pc + 3, locals := ls, stack := .ref T.heap.size :: rest, locked := none }) _
  jvm_step X₁.here [X₁.here.top, hexec, d3', Value.category]
  exact X₁.ldcString hexec (own := own) (text := text) (index := is) (a := sa) hown' hstr'.1 hstr'.2
    (g := { method := m, pc := pc + 4, locals := ls, stack := .ref T.heap.size :: .ref T.heap.size :: rest, locked := none }) rfl d4' _ hsteps
/-- 'throw new E("text")', the text by a wide index -/
theorem vx_throwSW {cc : ByteArray} {pc : Nat} (hexec : p.tables.exec = Jvm.exec) (hb : c.code = cc) (hl : l.stackTraces = false) {own cls text : String} {names : List String} {ik is ic mc ms sa : Nat} {A : Nat → Prop}
    (hown : s.vm.findClass own = some m.cls) (hcls : Bundle.fit cls = true) (hnames : ∀ n ∈ names, Bundle.fit n = true)
    (hk : (Cond.classLink own ik cls).before args s = true) (hini : (Cond.initialized cls).before args s = true) (hstr : vk_R own is text sa s) (hat : ∀ w ∈ vx_atS own ic cls names, w.before args s = true)
    (hgood : ∀ w ∈ Cond.classLink own ik cls :: Cond.initialized cls :: vx_atS own ic cls names, vx_ot w = true)
    (hU : vx_Zq Bundle.tN "UNASSIGNED_STACK" Bundle.steD A s s.heap) (hN : vx_Zq Bundle.tN "SUPPRESSED_SENTINEL" Bundle.listD A s s.heap) (hS : va_S A s.heap H locs) (hsize : ls.size = c.maxLocals)
    (d0 : decode cc pc = .ok (.new ik, 3)) (d3 : decode cc (pc + 3) = .ok (.dup, 1)) (d4 : decode cc (pc + 4) = .ok (.ldc_w is, 3)) (d7 : decode cc (pc + 7) = .ok (.invokespecial ic, 3)) (d10 : decode cc (pc + 10) = .ok (.athrow, 1))
    (hout : ∀ x ∈ c.exceptionTable.toList, covers x (pc + 10) = false)
    (hRframes : names.length + 3 < R.frames) (hRlocals : (rest.map fun v => v.category).sum + (13 * (names.length + 1) + 43) ≤ R.locals) (hRcells : cells + 1 ≤ R.cells) (hRslots : slots + 6 ≤ R.slots) (hlocks : meth.locks = false)
    (hx : ∀ t : State, s.vm.Alike t.vm → H.size ≤ t.heap.size → (∀ q : Nat, q < H.size → t.heap[q]? = H[q]?) → XC cls s t)
    (hf : ∀ z ∈ locs, free z.base) (hc : cells + 1 ≤ mc) (hs : slots + 6 ≤ ms) :
    W p l e R s m args below meth c H locs cells slots (vx_MQ below Qc XC args s mc ms free) (F0 m pc ls rest) := by
  intro T hT X
  have htr : e.platform.stackTraces = false := (show e.platform.stackTraces = l.stackTraces by rw [X.admits.platform]).trans hl
  have Y := vx_rebase X (R' := { frames := R.frames, locals := R.locals, cells := 1, slots := 6 }) (Nat.le_refl _) (Nat.le_refl _) hRcells hRslots
  obtain ⟨s', hA⟩ : ∃ z, z = (T.setVm s.vm).setFrames (.invoking m args :: below) := ⟨_, rfl⟩
  rw [← hA] at Y
  have hvm : s'.vm = s.vm := by rw [hA]; rfl
  have hhp : s'.heap = H := by rw [hA]; exact hT
  have hW0 : s.WarmedH s'.vm := by rw [hvm]; exact State.WarmedH.refl s
  have hat' : ∀ w ∈ vx_atS own ic cls names, w.before args s' = true := fun w hw => vx_ot_at hW0 hvm.symm (hgood w (List.mem_cons_of_mem _ (List.mem_cons_of_mem _ hw))) (hat w hw)
  have hk' : (Cond.classLink own ik cls).before args s' = true := vx_ot_at hW0 hvm.symm (hgood _ List.mem_cons_self) hk
  have hini' : (Cond.initialized cls).before args s' = true := vx_ot_at hW0 hvm.symm (hgood _ (List.mem_cons_of_mem _ List.mem_cons_self)) hini
  have hU' : vx_Zq Bundle.tN "UNASSIGNED_STACK" Bundle.steD A s' s'.heap := by rw [hhp]; exact vx_Zq.moved hW0.alike (hU.kept hS.2.1)
  have hN' : vx_Zq Bundle.tN "SUPPRESSED_SENTINEL" Bundle.listD A s' s'.heap := by rw [hhp]; exact vx_Zq.moved hW0.alike (hN.kept hS.2.1)
  have h : ∀ w ∈ Bundle.ownAtoms own ic cls names, w.before args s' = true := vx_own hat' (vx_isRefq hU'.1) (vx_isRefq hN'.1) hU'.2.word hN'.2.word
  have hown' : s'.vm.findClass own = some m.cls := by rw [hvm]; exact hown
  have hins : (Cond.instantiable cls 6).before args s' = true := h _ (by simp [Bundle.ownAtoms])
  obtain ⟨vm₁, cX, kX, hfX, hkX, -, -, X₁, st1⟩ := Y.newCold hexec (own := own) (C := cls) (index := ik) (n := 6) hown' hk' hins hini'
    (g := F0 m pc ls rest) rfl (by rw [hb]; exact d0) (Nat.le_refl _) (Nat.le_refl _)
  generalize hT1 : (T.setVm vm₁).pushCell { cls := cX, slots := kX.instanceTypes.map defaultValue, vm := .none } = T1 at X₁ st1
  have hcat : (Value.ref T.heap.size).category = 1 := rfl
  have hcellA : T1.heap[T.heap.size]? = some (freshCell cX kX) := by rw [← hT1]; exact State.heap_pushCell_size _ _
  have d3' : decode c.code (pc + 3) = .ok (.dup, 1) := by rw [hb]; exact d3
  have d4' : decode c.code (pc + 4) = .ok (.ldc_w is, 3) := by rw [hb]; exact d4
  have hstr' : vk_R own is text sa s' := vk_R.warm hW0 hstr
  obtain ⟨U, hsteps, hrun, hend, hW, hsame, ce, hce, hO⟩ := X₁.ctorThrowS hexec htr (own := own) (cls := cls) (names := names) (ic := ic) hown' hcls hnames h (fun x hx => nomatch hx) hfX hkX hcellA (by rw [hhp, hT]; exact Nat.le_refl _) (msg := .ref sa) rfl
    (g := { method := m, pc := pc + 7, locals := ls, stack := .ref sa :: .ref T.heap.size :: .ref T.heap.size :: rest, locked := none }) rfl hsize rfl rfl (rest := rest) rfl
    (by rw [hb]; exact d7) (by rw [hb]; exact d10) hout hRframes (by simp only [List.map_cons, List.sum_cons, hcat]; omega) hlocks
  obtain ⟨f1, f2⟩ := vx_frame hsame
  rw [hhp] at f1 f2
  have hWs : s.WarmedH U.vm := State.WarmedH.trans hW0 hW
  have hcl : s.vm.findClass cls = some ce.cls := by
    have h9 := hO.cls
    rw [hvm] at h9
    exact h9
  have hall : s.sameButNew ({ U with vm := s.vm } : State) locs mc ms := by
    subst hA
    obtain ⟨e1, e2⟩ := hsame
    rw [State.setFrames_setFrames] at e1
    have h2 : (T.setVm s.vm).sameButNew ({ U with vm := s.vm } : State) [] (0 + 1) (0 + 6) := ⟨e1, e2⟩
    have h3 := X.same.trans h2
    rw [List.append_nil] at h3
    exact h3.mono hc hs
  refine ⟨U, ?_, .threw T.heap.size, hrun, hend, Or.inr ⟨T.heap.size, rfl, cls, ce, locs, hx U hWs.alike f1 (fun q hq => f2 q hq (fun z hz => nomatch hz)), hce, hO.vm, hcl, hWs, hall, hf⟩⟩
  refine st1 _ ?_
  show Steps p.tables e below (T1.setTop { method := m, pc := pc + 3, locals := ls, stack := .ref T.heap.size :: rest, locked := none }) _
  jvm_step X₁.here [X₁.here.top, hexec, d3', Value.category]
  exact X₁.ldcStringW hexec (own := own) (text := text) (index := is) (a := sa) hown' hstr'.1 hstr'.2
    (g := { method := m, pc := pc + 4, locals := ls, stack := .ref T.heap.size :: .ref T.heap.size :: rest, locked := none }) rfl d4' _ hsteps
end Ends
section Bodies
variable {l : Launch}
theorem vx_ofW {y : MethodName} {ws ws' : List Cond} {rm : Room} {Pc : Array Value → State → Prop} {Qc : Array Value → State → Outcome → State → Prop} {XC : String → State → State → Prop} {mc ms : Nat} {free : Addr → Prop} {cc : ByteArray} {maxL : Nat} {ret : Option FieldType}
    (hy : plainName y.cls = true) (hw : ws = Cond.code y cc maxL ret :: ws')
    (body : ∀ p e s m args below meth c s₁, BodyLoose p l y (headSpec ws rm) cc maxL ret e s m args below meth c s₁ → c.maxLocals = maxL → (∀ x ∈ c.exceptionTable.toList, False) → Pc args s →
      W p l e (headSpec ws rm).room s m args below meth c s.heap [] 0 0 (vx_MQ below Qc XC args s mc ms free) (entryFrame m args maxL)) : vx_Met l y ws rm Pc Qc XC mc ms free := by
  refine MetFree.of_bodyS (code := cc) (maxLocals := maxL) (ret := ret) hy ?_ ?_
  · intro args s m h hn
    obtain ⟨meth, c, h1, h2, h3, h4, h5, h6, -, -⟩ := Cond.code_spec hn (atoms_spec (ws := ws) h _ (by rw [hw]; exact List.mem_cons_self))
    exact ⟨meth, c, h1, h2, h3, h4, h5, h6⟩
  · intro p e s m args below meth c s₁ B hml hP _
    have hh0 : s₁.heap = s.heap := by rw [B.state]; rfl
    have ht : ∀ x ∈ c.exceptionTable.toList, False := by
      obtain ⟨meth9, c9, h1, h2, -, -, -, -, h7, -⟩ := Cond.code_spec B.named (atoms_spec (ws := ws) B.pre _ (by rw [hw]; exact List.mem_cons_self))
      cases Option.some.inj (h1.symm.trans B.method)
      cases Option.some.inj (h2.symm.trans (Stand.of_body B).code)
      intro x hx
      rw [Array.isEmpty_iff.mp h7] at hx
      cases hx
    obtain ⟨t, a1, o, b1, b2, b3⟩ := body p e s m args below meth c s₁ B hml ht hP s₁ hh0 (Stand.of_body B)
    exact ⟨t, o, a1, b1, b2, b3⟩
/-- the table of a body with handlers -/
theorem vx_table {p : Program} {x y : MethodName} {S : Spec} {cc bytes : ByteArray} {maxL maxL' : Nat} {ret ret' : Option FieldType} {e : Env} {s s₁ : State} {m : MethodId} {args : Array Value} {below : List Frame} {meth : Method} {c : Code} {hh : List (Nat × Nat × Nat × Nat)}
    (B : BodyLoose p l y S cc maxL ret e s m args below meth c s₁) (h : (Cond.codeWith y bytes maxL' ret' hh).before args s = true) : c.exceptionTable.toList = tableOf hh := by
  obtain ⟨m9, meth9, c9, hn9, h1, h2, -, -, h6, -⟩ := Cond.codeWith_spec h
  cases Option.some.inj (hn9.symm.trans B.named)
  cases Option.some.inj (h1.symm.trans B.method)
  cases Option.some.inj (h2.symm.trans (Stand.of_body B).code)
  rw [← h6, table_eq]
end Bodies
end VXA
/-! ===== END ===== -/
/-! ===== BEGIN a static call of a method with an exception table ===== -/
section VXS
variable {p : Program} {l : Launch} {e : Env} {R : Room} {s : State} {m : MethodId} {args : Array Value} {below : List Frame} {meth : Method} {c : Code} {T : State} {H : Heap} {locs : List Loc} {cells slots : Nat}
abbrev vx_CSW (R : Room) (s : State) (args : Array Value) (own : String) (index : Nat) (y : MethodName) (bytes : ByteArray) (maxL : Nat) (ret : Option FieldType) (hh : List (Nat × Nat × Nat × Nat)) (ws : List Cond) (rm : Room) (mc ms n : Nat) : Prop :=
  (rm.cells = mc ∧ rm.slots = ms ∧ rm.frames + 1 ≤ R.frames ∧ 8 + (maxL + 11) + rm.locals ≤ R.locals ∧ (∀ w ∈ ws, ∀ (a' : Array Value) (U : State), s.WarmedH U.vm → w.before a' U = true) ∧ Cond.codeWith y bytes maxL ret hh ∈ ws) ∧
  (Cond.codeWith y bytes maxL ret hh).before args s = true ∧ (Cond.initialized y.cls).before args s = true ∧ (y.cls ≠ "java/lang/invoke/MethodHandle" ∧ y.cls ≠ "java/lang/invoke/VarHandle") ∧
  (∀ sig, parseMethodDescriptor y.desc = some sig → n = sig.parameters.length) ∧ (Cond.methodLink own index y).before args s = true ∧ (Cond.static y).before args s = true
theorem vx_cwSW {own : String} {index maxL mc ms : Nat} {y : MethodName} {bytes : ByteArray} {ret : Option FieldType} {hh : List (Nat × Nat × Nat × Nat)} {Ts ws ws' : List Cond} {rm : Room} (n : Nat) (ht : ∀ w ∈ Ts, w.before args s = true) (hT : GoodIn Ts (va_wsS own index y ws)) (hw : ws = Cond.codeWith y bytes maxL ret hh :: ws') (hrc : rm.cells = mc) (hrs : rm.slots = ms)
    (hd : y.cls ≠ "java/lang/invoke/MethodHandle" ∧ y.cls ≠ "java/lang/invoke/VarHandle" ∧ (parseMethodDescriptor y.desc).map (fun d => d.parameters.length) = some n) (hR : rm.frames + 1 ≤ R.frames ∧ 8 + (maxL + 11) + rm.locals ≤ R.locals) :
    vx_CSW R s args own index y bytes maxL ret hh ws rm mc ms n := by
  have ok : ∀ w ∈ va_wsS own index y ws, w.before args s = true := fun w h => ht w (hT w h).1
  have hG : GoodIn Ts ws := fun w h => hT w (by unfold va_wsS; exact List.mem_append_right _ h)
  have hc : Cond.codeWith y bytes maxL ret hh ∈ ws := by rw [hw]; exact List.mem_cons_self
  refine ⟨⟨hrc, hrs, hR.1, hR.2, pay_in ht hG, hc⟩, ht _ (hG _ hc).1, ok _ (by simp [va_wsS]), ⟨hd.1, hd.2.1⟩, fun sig h => ?_, ok _ (by simp [va_wsS]), ok _ (by simp [va_wsS])⟩
  have h2 := hd.2.2
  rw [h] at h2
  exact (Option.some.inj h2).symm
theorem vx_callSW (X : Stand p l e R s m args below meth c T locs cells slots) (hexec : p.tables.exec = Jvm.exec) {own : String} {index : Nat} {y : MethodName} {bytes : ByteArray} {maxL : Nat} {ret : Option FieldType} {hh : List (Nat × Nat × Nat × Nat)}
    (hown : s.vm.findClass own = some m.cls) (hlink : (Cond.methodLink own index y).before args s = true) (hstat : (Cond.static y).before args s = true) (hinit : (Cond.initialized y.cls).before args s = true)
    (hcode : (Cond.codeWith y bytes maxL ret hh).before args s = true) (hy : y.cls ≠ "java/lang/invoke/MethodHandle" ∧ y.cls ≠ "java/lang/invoke/VarHandle")
    {W9 : Nat} {Pre : Pt → Array Value → Prop} {Post : Pt → Array Value → Option Value → Pt → Prop} (hK : Back l R p e below s args y 3 W9 Pre Post)
    {g : JFrame} (hg : g.method = m) (hsize : g.locals.size = c.maxLocals) {argsL rest : List Value} (hlen : ∀ sig, parseMethodDescriptor y.desc = some sig → argsL.length = sig.parameters.length)
    (hstack : g.stack = argsL.reverse ++ rest) (hW : 2 * g.monitorRoom + (rest.map fun v => v.category).sum ≤ W9) (hdg : decode c.code g.pc = .ok (.invokestatic index, 3))
    (hpre : ∀ vm₁, s.WarmedH vm₁ → Pre ⟨T.setVm vm₁, locs, cells, slots⟩ argsL.toArray) :
    ∃ (v : Option Value) (vm₁ : Vm) (B : Pt), s.WarmedH vm₁ ∧ Stand p l e R s m args below meth c B.U B.locs B.cells B.slots ∧ Post ⟨T.setVm vm₁, locs, cells, slots⟩ argsL.toArray v B ∧
      ∀ target, Steps p.tables e below (B.U.setTop { g with pc := g.pc + 3, stack := v.toList ++ rest }) target → Steps p.tables e below (T.setTop g) target := by
  obtain ⟨mk, methM, cM, hnamed, hmethM, -, -, -, -, -, -, hsigM⟩ := Cond.codeWith_spec hcode
  have hstatic : methM.isStatic = true := Cond.static_spec hnamed hmethM hstat
  obtain ⟨kP, hkP, -⟩ := className_of_methodNamed hnamed
  have hinitP : kP.init = .initialized := Cond.initialized_spec (findClass_of_methodNamed hnamed) hkP hinit
  obtain ⟨vm₁, X₁, hstep₁⟩ := X.invokestatic hexec hown hlink hnamed hmethM hstatic hkP hinitP hy (g := g) hg (argsL := argsL) (rest := rest) (hlen _ hsigM) hstack hdg
  obtain ⟨v, B, X', hpost, hsteps⟩ := hK m meth c ⟨T.setVm vm₁, locs, cells, slots⟩ { g with stack := rest } (.invokestatic index) mk argsL.toArray X₁ hg hsize hdg hW (X₁.named hnamed) (hpre vm₁ X₁.warmed)
  exact ⟨v, vm₁, B, X₁.warmed, X', hpost, fun target h => hstep₁ _ fun acts => by rw [doInvoke_state]; exact hsteps.trans h⟩
theorem vx_runSW {y : MethodName} {bytes cc : ByteArray} {maxL nL mc ms n index : Nat} {ret : Option FieldType} {hh : List (Nat × Nat × Nat × Nat)} {ws : List Cond} {rm : Room} {Pc : Array Value → State → Prop} {Qc : Array Value → State → Outcome → State → Prop} {free : Addr → Prop} {Ts : List Cond} {own : String} {As rest : List Value} {g : JFrame}
    (S : CallFix p m c cc nL s args Ts own) (hM : Met l y ws rm Pc Qc mc ms free) (cw : vx_CSW R s args own index y bytes maxL ret hh ws rm mc ms n) (hp : PreS s H Pc As)
    (hg : g.method = m) (hn : As.length = n) (hsize : g.locals.size = nL) (hstack : g.stack = As.reverse ++ rest) (hW : 2 * g.monitorRoom + (rest.map fun v => v.category).sum ≤ 8) (hdg : decode cc g.pc = .ok (.invokestatic index, 3)) (hf : cells + mc ≤ R.cells ∧ slots + ms ≤ R.slots) :
    va_Run p l e R s m args below meth c H locs cells slots mc ms g rest (Qc As.toArray) (free) := by
  obtain ⟨⟨hrc, hrs, hfr, hlo, hws, hcw⟩, hcode, hini, hy, hlen, hl, hstt⟩ := cw
  have hK : Back l R p e below s args y 3 8 (PreOf R mc ms Pc) (PostOf Qc mc ms free) := va_backW (hh := hh) (bytes := bytes) (maxL := maxL) (ret := ret) hM hp.1 hrc hrs hfr hlo hws hcw (fun a' U hW => word_at hW (Or.inl (by first | rfl | simp [Cond.onTables, Cond.keeps, Cond.steady])) hini)
  obtain ⟨hx, hb, hml, ho, -⟩ := S
  intro T hT X
  obtain ⟨v, vm₁, ⟨U', l2, c2, s2⟩, hW₁, X', ⟨g', mk, t, L, e1, e2, hq, h1, hL, h2, h3⟩, st⟩ := vx_callSW X hx (hh := hh) (bytes := bytes) (maxL := maxL) (ret := ret) ho hl hstt hini hcode hy hK hg (hsize.trans hml.symm) (argsL := As) (rest := rest) (fun sig h => hn.trans (hlen sig h)) hstack hW (by rw [hb]; exact hdg)
    (fun vm₁ hW₁ => ⟨hf.1, hf.2, hp.2 (T.setVm vm₁) hT hW₁⟩)
  dsimp only [Pt.U, Pt.locs, Pt.cells, Pt.slots] at X' e1 e2 h1 h2 h3 st
  subst h1; subst h2; subst h3
  exact ⟨v, (T.setVm vm₁).calling g' mk As.toArray, t, U', L, hT, X', hL, e1, e2, hq, st⟩
/-- not caught here, past rows that name other classes: it goes on to the caller -/
theorem vx_outP {p : Program} {l : Launch} {e : Env} {R : Room} {s : State} {m : MethodId} {args : Array Value} {below : List Frame} {meth : Method} {c : Code} {H : Heap} {locs : List Loc} {cells slots : Nat} {free : Addr → Prop} {ls : Array Slot} {rest : List Value} {Qc : Array Value → State → Outcome → State → Prop} {XC : String → State → State → Prop}
    {pc : Nat} {own E : String} {ce : Cell} {q : Addr} {mc ms : Nat} (hown : s.vm.findClass own = some m.cls) (hlocks : meth.locks = false)
    (hpass : ∀ z ∈ c.exceptionTable.toList, covers z pc = false ∨ (z.catchType ≠ 0 ∧ ∃ nm : String, (Cond.classLink own z.catchType nm).before args s = true ∧ va_Nc E nm s)) (hcell : H[q]? = some ce) (hv : ce.vm = .none) (hcl : s.vm.findClass E = some ce.cls)
    (hx : ∀ t : State, t.heap = H → s.vm.Alike t.vm → XC E s t) (hf : ∀ z ∈ locs, free z.base) (hc : cells ≤ mc) (hs : slots ≤ ms) :
    vx_W p l e R s m args below meth c H locs cells slots (vx_MQ below Qc XC args s mc ms free) (F0 m pc ls rest) q := by
  intro T hT X
  have hpl : e.platform.magicAccessors = ({} : Platform).magicAccessors := by rw [X.admits.platform]
  obtain ⟨vm', hW', X', st⟩ := X.outThrough hlocks q (g := F0 m pc ls rest) rfl rfl rfl (cell := ce) (by rw [hT]; exact hcell) (by rw [hv]; rfl)
    (by obtain ⟨k9, h9, -⟩ := Vm.findClass_spec hcl; exact ⟨k9, h9⟩) (fun z hz => by
      rcases hpass z hz with h | ⟨hz0, nm, hl1, hn1⟩
      · exact Or.inl h
      · obtain ⟨c6, hc6, hcl6⟩ := Cond.classLink_spec hown hl1 e.platform hpl
        obtain ⟨a8, b8, h1, h2, h3⟩ := hn1
        cases Option.some.inj (h1.symm.trans hcl)
        cases Option.some.inj (h2.symm.trans hc6)
        exact Or.inr ⟨hz0, _, hcl6, h3⟩)
  obtain ⟨g₀, hfr⟩ := X'.frames_eq
  have hcell9 : ((T.setVm vm').setFrames (.throwing q :: below)).heap[q]? = some ce := by
    show T.heap[q]? = some ce
    rw [hT]; exact hcell
  have hend : Ended ((T.setVm vm').setFrames (.throwing q :: below)) below (.threw q) := State.frames_setFrames _ (State.cur_lt_of_frames hfr)
  refine ⟨(T.setVm vm').setFrames (.throwing q :: below), ?_, .threw q, X'.here.running, hend, Or.inr ⟨q, rfl, E, ce, locs, hx _ hT (X'.ends _).1.alike, hcell9, hv, hcl, (X'.ends _).1, (X'.ends _).2.mono hc hs, hf⟩⟩
  rw [X.pushThrowing_eq]
  exact st
/-- a thing of a world lies in the heap -/
theorem vx_lt {D : va_G} {cl : List vw_C} {ws : va_W} {H1 : Heap} (h : va_P D cl ws H1) {k : Nat} {q : Nat × va_E} (hk : ws[k]? = some q) : q.1 < H1.size := (h k q hk).lt
end VXS
/-! ===== END ===== -/
/-! ===== BEGIN methods with a table of their own: called by a name, returning or throwing ===== -/
section VXH
/-! vx_backW, vx_callVX, vx_callSX, vx_callVW, vx_runVW, vx_runVX, vx_runSX, vx_ofWH follow the same proofs as their sisters above (Free/Laws.lean, Shelf42/LK1.lean); vx_outP calls Shelf42/NT130.lean (outThrough). -/
section
variable {l : Launch} {R : Room} {p : Program} {e : Env} {below : List Frame} {s : State} {sargs : Array Value} {y : MethodName} {len W9 : Nat}
theorem vx_backW {ws : List Cond} {rm : Room} {Pc : Array Value → State → Prop} {Qc : Array Value → State → Outcome → State → Prop} {XC : String → State → State → Prop} {mc ms : Nat} {free : Addr → Prop} {bytes : ByteArray} {maxL : Nat} {ret : Option FieldType} {hh : List (Nat × Nat × Nat × Nat)}
    (hM : vx_Met l y ws rm Pc Qc XC mc ms free) (hblind : FrameBlind Pc) (hrc : rm.cells = mc) (hrs : rm.slots = ms)
    (hframes : rm.frames + 1 ≤ R.frames) (hlocals : W9 + (maxL + 11) + rm.locals ≤ R.locals)
    (hws : ∀ w ∈ ws, ∀ a' U, s.WarmedH U.vm → w.before a' U = true) (hcode : Cond.codeWith y bytes maxL ret hh ∈ ws) (hinit : ∀ a' U, s.WarmedH U.vm → (Cond.initialized y.cls).before a' U = true) :
    vx_Back l R p e below s sargs y len W9 (PreOf R mc ms Pc) (PostOf Qc mc ms free) (vx_Post XC mc ms free) := by
  intro m meth c A g ig mk a X hg hsize hdg hW hn hp
  have h1 : (headSpec ws rm).pre.before a A.U = true := atoms_intro fun w hw => hws w hw _ _ X.warmed
  have h2 : (Cond.codeWith y bytes maxL ret hh).before a A.U = true := hws _ hcode _ _ X.warmed
  have h3 : (Cond.initialized y.cls).before a A.U = true := hinit _ _ X.warmed
  have h4 : A.cells + (headSpec ws rm).room.cells ≤ R.cells := by rw [show (headSpec ws rm).room.cells = mc from hrc]; exact hp.1
  have h5 : A.slots + (headSpec ws rm).room.slots ≤ R.slots := by rw [show (headSpec ws rm).room.slots = ms from hrs]; exact hp.2.1
  have hPc : Pc a (A.U.calling g mk a) := hblind _ _ _ _ hp.2.2
  obtain ⟨U, Ls, c0, s0⟩ := A
  dsimp only [Pt.U, Pt.locs, Pt.cells, Pt.slots] at h1 h2 h3 h4 h5 X hn hPc ⊢
  obtain ⟨m9, methY, cY, hn9, hmY, hcY, -, hlY, -⟩ := Cond.codeWith_spec h2
  cases Option.some.inj (hn9.symm.trans hn)
  obtain ⟨kY, hkY, -⟩ := className_of_methodNamed hn
  have hinitY : kY.init = .initialized := Cond.initialized_spec (findClass_of_methodNamed hn) hkY h3
  have h : At U g.method c below := by rw [hg]; exact X.here
  have hlocals9 : W9 + (maxL + 11) + (headSpec ws rm).room.locals ≤ R.locals := hlocals
  have happ : (headSpec ws rm).appliesLoose y e.platform (U.calling g mk a) = true :=
    Spec.appliesLoose_calling (g := g) h hdg hn hkY hinitY
      (X.room_calling (g := g) (R' := (headSpec ws rm).room) hsize hmY hcY hframes (by rw [hlY]; omega) h4 h5) h1
  obtain ⟨mid, hmid⟩ := h.above
  have hfr : (U.setTop g).frames = (.java g :: mid) ++ below := by rw [State.frames_setTop' g h.top, hmid]; rfl
  obtain ⟨o, s₂, hsteps, -, hend, hq⟩ := Steps.callFree hM p X.admits X.cas X.clock (acts := []) hfr happ hPc trivial
  have hq' : vx_Q Qc XC mc ms free a (U.calling g mk a) o s₂ := hq
  rw [State.frames_setTop' g h.top] at hend
  obtain ⟨g₀, hg0⟩ := Option.isSome_iff_exists.mp h.top
  obtain ⟨r, hr⟩ := State.topJava?_eq_some.mp hg0
  have hr' : (({ U with heap := s₂.heap, slotsUsed := s₂.slotsUsed } : State).setVm s₂.vm).frames = .java g₀ :: r := hr
  rcases hq' with ⟨hqc, L, hfe, hL⟩ | ⟨q, rfl, E, ce, L, hx, hce, hcv, hcl, hW₂, hsm, hL⟩
  · obtain ⟨⟨v, rfl⟩, hW₂, e2, q2, q3, q4, q5, q6⟩ := id hfe
    have e3 : s₂ = ({ (U.calling g mk a).setFrames s₂.frames with heap := s₂.heap, slotsUsed := s₂.slotsUsed } : State).setVm s₂.vm := by
      have : s₂ = ({ s₂ with vm := (U.calling g mk a).vm } : State).setVm s₂.vm := rfl
      rw [e2] at this
      exact this
    obtain ⟨c₂, i₂, len₂, hc₂, hd₂, hf₂⟩ := hend
    have hW' : U.WarmedH s₂.vm := hW₂
    have hcc : c₂ = c := by
      have h1 : s₂.code? g.method = U.code? g.method := by
        rw [State.code?_eq, State.code?_eq, hW'.alike.method?]
      exact Option.some.inj (hc₂.symm.trans (h1.trans h.code))
    subst hcc
    have hlen : len₂ = len := by rw [hdg] at hd₂; cases hd₂; rfl
    subst hlen
    have hs₂ : s₂ = (({ U with heap := s₂.heap, slotsUsed := s₂.slotsUsed } : State).setVm s₂.vm).setTop { g with pc := g.pc + len₂, stack := v.toList ++ g.stack } := by
      refine e3.trans ?_
      rw [hf₂, State.calling_eq h.top, State.setFrames_setFrames, State.setTop_of_frames _ hr', hr]
      rfl
    have hsame : U.sameButNew ({ U with heap := s₂.heap, slotsUsed := s₂.slotsUsed } : State) L mc ms := by
      refine ⟨?_, q2, q3, q4, q5, q6⟩
      obtain ⟨t, ht, -⟩ := State.frames_cons hr
      show ({ U with heap := s₂.heap, slotsUsed := s₂.slotsUsed } : State) = { U.setFrames U.frames with heap := s₂.heap, slotsUsed := s₂.slotsUsed }
      rw [State.setFrames_self ht]
    subst hg
    refine Or.inl ⟨v, ⟨(({ U with heap := s₂.heap, slotsUsed := s₂.slotsUsed } : State).setVm s₂.vm), Ls ++ L, c0 + mc, s0 + ms⟩,
      ⟨X.admits, X.cas, X.clock, X.frames, X.room, X.hears, X.method, X.code, (X.here.setHeapUsed s₂.heap s₂.slotsUsed).setVm hW'.alike, X.tail, State.WarmedH.trans X.warmed hW', X.limits, X.bytes, X.same.trans (hsame.setVm s.vm)⟩,
      ⟨g, mk, s₂, L, rfl, rfl, hqc, rfl, hL, rfl, rfl⟩, ?_⟩
    show Steps p.tables e below _ ((({ U with heap := s₂.heap, slotsUsed := s₂.slotsUsed } : State).setVm s₂.vm).setTop { g with pc := g.pc + len₂, stack := v.toList ++ g.stack })
    rw [← hs₂]
    exact hsteps
  · obtain ⟨e2, q2, q3, q4, q5, q6⟩ := id hsm
    have e3 : s₂ = ({ (U.calling g mk a).setFrames s₂.frames with heap := s₂.heap, slotsUsed := s₂.slotsUsed } : State).setVm s₂.vm := by
      have : s₂ = ({ s₂ with vm := (U.calling g mk a).vm } : State).setVm s₂.vm := rfl
      rw [e2] at this
      exact this
    have hf₂ : s₂.frames = .throwing q :: .java g :: U.frames.tail := hend
    have hW' : U.WarmedH s₂.vm := hW₂
    have hs₂ : s₂ = ((({ U with heap := s₂.heap, slotsUsed := s₂.slotsUsed } : State).setVm s₂.vm).setTop g).pushFrame (.throwing q) := by
      refine e3.trans ?_
      rw [hf₂, State.calling_eq h.top, State.setFrames_setFrames, State.pushFrame, State.frames_setTop _ hr', State.setTop_of_frames _ hr', State.setFrames_setFrames, hr]
      rfl
    have hsame : U.sameButNew ({ U with heap := s₂.heap, slotsUsed := s₂.slotsUsed } : State) L mc ms := by
      refine ⟨?_, q2, q3, q4, q5, q6⟩
      obtain ⟨t, ht, -⟩ := State.frames_cons hr
      show ({ U with heap := s₂.heap, slotsUsed := s₂.slotsUsed } : State) = { U.setFrames U.frames with heap := s₂.heap, slotsUsed := s₂.slotsUsed }
      rw [State.setFrames_self ht]
    subst hg
    refine Or.inr ⟨q, ⟨(({ U with heap := s₂.heap, slotsUsed := s₂.slotsUsed } : State).setVm s₂.vm), Ls ++ L, c0 + mc, s0 + ms⟩,
      ⟨X.admits, X.cas, X.clock, X.frames, X.room, X.hears, X.method, X.code, (X.here.setHeapUsed s₂.heap s₂.slotsUsed).setVm hW'.alike, X.tail, State.WarmedH.trans X.warmed hW', X.limits, X.bytes, X.same.trans (hsame.setVm s.vm)⟩,
      ⟨g, mk, s₂, L, E, ce, rfl, rfl, hx, hce, hcv, hcl, rfl, hL, rfl, rfl⟩, ?_⟩
    show Steps p.tables e below _ (((({ U with heap := s₂.heap, slotsUsed := s₂.slotsUsed } : State).setVm s₂.vm).setTop g).pushFrame (.throwing q))
    rw [← hs₂]
    exact hsteps
end
variable {p : Program} {l : Launch} {e : Env} {R : Room} {s : State} {m : MethodId} {args : Array Value} {below : List Frame} {meth : Method} {c : Code} {T : State} {H : Heap} {locs : List Loc} {cells slots : Nat}
theorem vx_callVX (X : Stand p l e R s m args below meth c T locs cells slots) (hexec : p.tables.exec = Jvm.exec) {own C : String} {index : Nat} {y : MethodName} {bytes : ByteArray} {maxL : Nat} {ret : Option FieldType} {hh : List (Nat × Nat × Nat × Nat)}
    (hown : s.vm.findClass own = some m.cls) (hlink : (Cond.methodLink own index y).before args s = true) (hinst : (Cond.instanceMethod y).before args s = true) (hsel : (Cond.selects C y y).before args s = true)
    (hcode : (Cond.codeWith y bytes maxL ret hh).before args s = true) (hy : y.cls ≠ "java/lang/invoke/MethodHandle" ∧ y.cls ≠ "java/lang/invoke/VarHandle")
    {W9 : Nat} {Pre : Pt → Array Value → Prop} {Post : Pt → Array Value → Option Value → Pt → Prop} {PostX : Pt → Array Value → Addr → Pt → Prop} (hK : vx_Back l R p e below s args y 3 W9 Pre Post PostX)
    {b : Addr} {cellB : Cell} (hcell : T.heap[b]? = some cellB) (hobj : cellB.vm.isStatics = false) (hcls : s.vm.findClass C = some cellB.cls)
    {g : JFrame} (hg : g.method = m) (hsize : g.locals.size = c.maxLocals) {argsL rest : List Value} (hlen : ∀ sig, parseMethodDescriptor y.desc = some sig → argsL.length = sig.parameters.length)
    (hstack : g.stack = argsL.reverse ++ .ref b :: rest) (hW : 2 * g.monitorRoom + (rest.map fun v => v.category).sum ≤ W9) (hdg : decode c.code g.pc = .ok (.invokevirtual index, 3))
    (hpre : ∀ vm₁, s.WarmedH vm₁ → Pre ⟨T.setVm vm₁, locs, cells, slots⟩ (Value.ref b :: argsL).toArray) :
    (∃ (v : Option Value) (vm₁ : Vm) (B : Pt), s.WarmedH vm₁ ∧ Stand p l e R s m args below meth c B.U B.locs B.cells B.slots ∧ Post ⟨T.setVm vm₁, locs, cells, slots⟩ (Value.ref b :: argsL).toArray v B ∧
      ∀ target, Steps p.tables e below (B.U.setTop { g with pc := g.pc + 3, stack := v.toList ++ rest }) target → Steps p.tables e below (T.setTop g) target) ∨
    (∃ (q : Addr) (vm₁ : Vm) (B : Pt), s.WarmedH vm₁ ∧ Stand p l e R s m args below meth c B.U B.locs B.cells B.slots ∧ PostX ⟨T.setVm vm₁, locs, cells, slots⟩ (Value.ref b :: argsL).toArray q B ∧
      Steps p.tables e below (T.setTop g) ((B.U.setTop { g with stack := rest }).pushFrame (.throwing q))) := by
  obtain ⟨mk, methM, hnamed, hmethM, hstM, habM⟩ := Cond.instanceMethod_spec hinst
  obtain ⟨m8, methM', cM, hn8, hmethM', -, -, -, -, -, -, hsigM⟩ := Cond.codeWith_spec hcode
  cases Option.some.inj (hn8.symm.trans hnamed)
  cases hmethM.symm.trans hmethM'
  obtain ⟨c2, r2, m2, q1, q2, q3, q4, kP, hkP, hkPi⟩ := Cond.selects_spec hsel
  cases hcls.symm.trans q1
  cases (State.methodFound?_of_named hnamed hy).symm.trans q2
  cases hnamed.symm.trans q3
  have hselP : selectMethod e.platform s.vm cellB.cls mk = .method mk := by rw [Launch.admits_selectMethod X.admits]; exact q4
  obtain ⟨vm₁, X₁, hstep₁⟩ := X.invokevirtual hexec hown hlink hnamed hmethM hstM hkP hkPi hy (a := b) (cell := cellB) hcell
    (fun z h => by rw [h] at hobj; cases hobj) hselP hmethM habM hkP hkPi (g := g) hg (argsL := argsL) (rest := rest) (hlen _ hsigM) hstack hdg
  rcases hK m meth c ⟨T.setVm vm₁, locs, cells, slots⟩ { g with stack := rest } (.invokevirtual index) mk (Value.ref b :: argsL).toArray X₁ hg hsize hdg hW (X₁.named hnamed) (hpre vm₁ X₁.warmed) with ⟨v, B, X', hpost, hsteps⟩ | ⟨q, B, X', hpost, hsteps⟩
  · exact Or.inl ⟨v, vm₁, B, X₁.warmed, X', hpost, fun target h => hstep₁ _ fun acts => by rw [doInvoke_state]; exact hsteps.trans h⟩
  · exact Or.inr ⟨q, vm₁, B, X₁.warmed, X', hpost, hstep₁ _ fun acts => by rw [doInvoke_state]; exact hsteps⟩
theorem vx_callSX (X : Stand p l e R s m args below meth c T locs cells slots) (hexec : p.tables.exec = Jvm.exec) {own : String} {index : Nat} {y : MethodName} {bytes : ByteArray} {maxL : Nat} {ret : Option FieldType} {hh : List (Nat × Nat × Nat × Nat)}
    (hown : s.vm.findClass own = some m.cls) (hlink : (Cond.methodLink own index y).before args s = true) (hstat : (Cond.static y).before args s = true) (hinit : (Cond.initialized y.cls).before args s = true)
    (hcode : (Cond.codeWith y bytes maxL ret hh).before args s = true) (hy : y.cls ≠ "java/lang/invoke/MethodHandle" ∧ y.cls ≠ "java/lang/invoke/VarHandle")
    {W9 : Nat} {Pre : Pt → Array Value → Prop} {Post : Pt → Array Value → Option Value → Pt → Prop} {PostX : Pt → Array Value → Addr → Pt → Prop} (hK : vx_Back l R p e below s args y 3 W9 Pre Post PostX)
    {g : JFrame} (hg : g.method = m) (hsize : g.locals.size = c.maxLocals) {argsL rest : List Value} (hlen : ∀ sig, parseMethodDescriptor y.desc = some sig → argsL.length = sig.parameters.length)
    (hstack : g.stack = argsL.reverse ++ rest) (hW : 2 * g.monitorRoom + (rest.map fun v => v.category).sum ≤ W9) (hdg : decode c.code g.pc = .ok (.invokestatic index, 3))
    (hpre : ∀ vm₁, s.WarmedH vm₁ → Pre ⟨T.setVm vm₁, locs, cells, slots⟩ argsL.toArray) :
    (∃ (v : Option Value) (vm₁ : Vm) (B : Pt), s.WarmedH vm₁ ∧ Stand p l e R s m args below meth c B.U B.locs B.cells B.slots ∧ Post ⟨T.setVm vm₁, locs, cells, slots⟩ argsL.toArray v B ∧
      ∀ target, Steps p.tables e below (B.U.setTop { g with pc := g.pc + 3, stack := v.toList ++ rest }) target → Steps p.tables e below (T.setTop g) target) ∨
    (∃ (q : Addr) (vm₁ : Vm) (B : Pt), s.WarmedH vm₁ ∧ Stand p l e R s m args below meth c B.U B.locs B.cells B.slots ∧ PostX ⟨T.setVm vm₁, locs, cells, slots⟩ argsL.toArray q B ∧
      Steps p.tables e below (T.setTop g) ((B.U.setTop { g with stack := rest }).pushFrame (.throwing q))) := by
  obtain ⟨mk, methM, cM, hnamed, hmethM, -, -, -, -, -, -, hsigM⟩ := Cond.codeWith_spec hcode
  have hstatic : methM.isStatic = true := Cond.static_spec hnamed hmethM hstat
  obtain ⟨kP, hkP, -⟩ := className_of_methodNamed hnamed
  have hinitP : kP.init = .initialized := Cond.initialized_spec (findClass_of_methodNamed hnamed) hkP hinit
  obtain ⟨vm₁, X₁, hstep₁⟩ := X.invokestatic hexec hown hlink hnamed hmethM hstatic hkP hinitP hy (g := g) hg (argsL := argsL) (rest := rest) (hlen _ hsigM) hstack hdg
  rcases hK m meth c ⟨T.setVm vm₁, locs, cells, slots⟩ { g with stack := rest } (.invokestatic index) mk argsL.toArray X₁ hg hsize hdg hW (X₁.named hnamed) (hpre vm₁ X₁.warmed) with ⟨v, B, X', hpost, hsteps⟩ | ⟨q, B, X', hpost, hsteps⟩
  · exact Or.inl ⟨v, vm₁, B, X₁.warmed, X', hpost, fun target h => hstep₁ _ fun acts => by rw [doInvoke_state]; exact hsteps.trans h⟩
  · exact Or.inr ⟨q, vm₁, B, X₁.warmed, X', hpost, hstep₁ _ fun acts => by rw [doInvoke_state]; exact hsteps⟩
theorem vx_callVW (X : Stand p l e R s m args below meth c T locs cells slots) (hexec : p.tables.exec = Jvm.exec) {own C : String} {index : Nat} {y : MethodName} {bytes : ByteArray} {maxL : Nat} {ret : Option FieldType} {hh : List (Nat × Nat × Nat × Nat)}
    (hown : s.vm.findClass own = some m.cls) (hlink : (Cond.methodLink own index y).before args s = true) (hinst : (Cond.instanceMethod y).before args s = true) (hsel : (Cond.selects C y y).before args s = true)
    (hcode : (Cond.codeWith y bytes maxL ret hh).before args s = true) (hy : y.cls ≠ "java/lang/invoke/MethodHandle" ∧ y.cls ≠ "java/lang/invoke/VarHandle")
    {W9 : Nat} {Pre : Pt → Array Value → Prop} {Post : Pt → Array Value → Option Value → Pt → Prop} (hK : Back l R p e below s args y 3 W9 Pre Post)
    {b : Addr} {cellB : Cell} (hcell : T.heap[b]? = some cellB) (hobj : cellB.vm.isStatics = false) (hcls : s.vm.findClass C = some cellB.cls)
    {g : JFrame} (hg : g.method = m) (hsize : g.locals.size = c.maxLocals) {argsL rest : List Value} (hlen : ∀ sig, parseMethodDescriptor y.desc = some sig → argsL.length = sig.parameters.length)
    (hstack : g.stack = argsL.reverse ++ .ref b :: rest) (hW : 2 * g.monitorRoom + (rest.map fun v => v.category).sum ≤ W9) (hdg : decode c.code g.pc = .ok (.invokevirtual index, 3))
    (hpre : ∀ vm₁, s.WarmedH vm₁ → Pre ⟨T.setVm vm₁, locs, cells, slots⟩ (Value.ref b :: argsL).toArray) :
    ∃ (v : Option Value) (vm₁ : Vm) (B : Pt), s.WarmedH vm₁ ∧ Stand p l e R s m args below meth c B.U B.locs B.cells B.slots ∧ Post ⟨T.setVm vm₁, locs, cells, slots⟩ (Value.ref b :: argsL).toArray v B ∧
      ∀ target, Steps p.tables e below (B.U.setTop { g with pc := g.pc + 3, stack := v.toList ++ rest }) target → Steps p.tables e below (T.setTop g) target := by
  obtain ⟨mk, methM, hnamed, hmethM, hstM, habM⟩ := Cond.instanceMethod_spec hinst
  obtain ⟨m8, methM', cM, hn8, hmethM', -, -, -, -, -, -, hsigM⟩ := Cond.codeWith_spec hcode
  cases Option.some.inj (hn8.symm.trans hnamed)
  cases hmethM.symm.trans hmethM'
  obtain ⟨c2, r2, m2, q1, q2, q3, q4, kP, hkP, hkPi⟩ := Cond.selects_spec hsel
  cases hcls.symm.trans q1
  cases (State.methodFound?_of_named hnamed hy).symm.trans q2
  cases hnamed.symm.trans q3
  have hselP : selectMethod e.platform s.vm cellB.cls mk = .method mk := by rw [Launch.admits_selectMethod X.admits]; exact q4
  obtain ⟨vm₁, X₁, hstep₁⟩ := X.invokevirtual hexec hown hlink hnamed hmethM hstM hkP hkPi hy (a := b) (cell := cellB) hcell
    (fun z h => by rw [h] at hobj; cases hobj) hselP hmethM habM hkP hkPi (g := g) hg (argsL := argsL) (rest := rest) (hlen _ hsigM) hstack hdg
  obtain ⟨v, B, X', hpost, hsteps⟩ := hK m meth c ⟨T.setVm vm₁, locs, cells, slots⟩ { g with stack := rest } (.invokevirtual index) mk (Value.ref b :: argsL).toArray X₁ hg hsize hdg hW (X₁.named hnamed) (hpre vm₁ X₁.warmed)
  exact ⟨v, vm₁, B, X₁.warmed, X', hpost, fun target h => hstep₁ _ fun acts => by rw [doInvoke_state]; exact hsteps.trans h⟩
abbrev vx_CVW (R : Room) (s : State) (args : Array Value) (own C : String) (index : Nat) (y : MethodName) (bytes : ByteArray) (maxL : Nat) (ret : Option FieldType) (hh : List (Nat × Nat × Nat × Nat)) (ws : List Cond) (rm : Room) (mc ms n : Nat) : Prop :=
  (rm.cells = mc ∧ rm.slots = ms ∧ rm.frames + 1 ≤ R.frames ∧ 8 + (maxL + 11) + rm.locals ≤ R.locals ∧ (∀ w ∈ ws, ∀ (a' : Array Value) (U : State), s.WarmedH U.vm → w.before a' U = true) ∧ Cond.codeWith y bytes maxL ret hh ∈ ws) ∧
  (Cond.codeWith y bytes maxL ret hh).before args s = true ∧ (Cond.initialized y.cls).before args s = true ∧ (y.cls ≠ "java/lang/invoke/MethodHandle" ∧ y.cls ≠ "java/lang/invoke/VarHandle") ∧
  (∀ sig, parseMethodDescriptor y.desc = some sig → n = sig.parameters.length) ∧ (Cond.methodLink own index y).before args s = true ∧ (Cond.instanceMethod y).before args s = true ∧ (Cond.selects C y y).before args s = true
theorem vx_cwVW {own C : String} {index maxL mc ms : Nat} {y : MethodName} {bytes : ByteArray} {ret : Option FieldType} {hh : List (Nat × Nat × Nat × Nat)} {Ts ws ws' : List Cond} {rm : Room} (n : Nat) (ht : ∀ w ∈ Ts, w.before args s = true) (hT : GoodIn Ts (wsV own index C y ws)) (hw : ws = Cond.codeWith y bytes maxL ret hh :: ws') (hrc : rm.cells = mc) (hrs : rm.slots = ms)
    (hd : y.cls = C ∧ y.cls ≠ "java/lang/invoke/MethodHandle" ∧ y.cls ≠ "java/lang/invoke/VarHandle" ∧ (parseMethodDescriptor y.desc).map (fun d => d.parameters.length) = some n) (hR : rm.frames + 1 ≤ R.frames ∧ 8 + (maxL + 11) + rm.locals ≤ R.locals) :
    vx_CVW R s args own C index y bytes maxL ret hh ws rm mc ms n := by
  obtain ⟨hC, hd⟩ := hd
  subst hC
  have ok : ∀ w ∈ wsV own index y.cls y ws, w.before args s = true := fun w h => ht w (hT w h).1
  have hG : GoodIn Ts ws := fun w h => hT w (by unfold wsV; exact List.mem_append_right _ h)
  have hc : Cond.codeWith y bytes maxL ret hh ∈ ws := by rw [hw]; exact List.mem_cons_self
  refine ⟨⟨hrc, hrs, hR.1, hR.2, pay_in ht hG, hc⟩, ht _ (hG _ hc).1, ok _ (by simp [wsV]), ⟨hd.1, hd.2.1⟩, fun sig h => ?_, ok _ (by simp [wsV]), ok _ (by simp [wsV]), ok _ (by simp [wsV])⟩
  have h2 := hd.2.2
  rw [h] at h2
  exact (Option.some.inj h2).symm
theorem vx_runVW {y : MethodName} {bytes cc : ByteArray} {maxL nL mc ms n index : Nat} {ret : Option FieldType} {hh : List (Nat × Nat × Nat × Nat)} {ws : List Cond} {rm : Room} {Pc : Array Value → State → Prop} {Qc : Array Value → State → Outcome → State → Prop} {free : Addr → Prop} {Ts : List Cond} {own C : String} {b : Addr} {As rest : List Value} {g : JFrame}
    (S : CallFix p m c cc nL s args Ts own) (hM : Met l y ws rm Pc Qc mc ms free) (cw : vx_CVW R s args own C index y bytes maxL ret hh ws rm mc ms n) (hp : PreV s H C b Pc As)
    (hg : g.method = m) (hn : As.length = n) (hsize : g.locals.size = nL) (hstack : g.stack = As.reverse ++ .ref b :: rest) (hW : 2 * g.monitorRoom + (rest.map fun v => v.category).sum ≤ 8) (hdg : decode cc g.pc = .ok (.invokevirtual index, 3)) (hf : cells + mc ≤ R.cells ∧ slots + ms ≤ R.slots) :
    va_Run p l e R s m args below meth c H locs cells slots mc ms g rest (Qc (Value.ref b :: As).toArray) free := by
  obtain ⟨⟨hrc, hrs, hfr, hlo, hws, hcw⟩, hcode, hini, hy, hlen, hl, hin, hse⟩ := cw
  have hK : Back l R p e below s args y 3 8 (PreOf R mc ms Pc) (PostOf Qc mc ms free) := va_backW (hh := hh) (bytes := bytes) (maxL := maxL) (ret := ret) hM hp.1 hrc hrs hfr hlo hws hcw (fun a' U hW => word_at hW (Or.inl (by first | rfl | simp [Cond.onTables, Cond.keeps, Cond.steady])) hini)
  obtain ⟨hx, hb, hml, ho, -⟩ := S
  obtain ⟨-, ⟨cellB, hcB, hoB, hclB⟩, hPc⟩ := hp
  intro T hT X
  obtain ⟨v, vm₁, ⟨U', l2, c2, s2⟩, hW₁, X', ⟨g', mk, t, L, e1, e2, hq, h1, hL, h2, h3⟩, st⟩ := vx_callVW X hx (C := C) (hh := hh) (bytes := bytes) (maxL := maxL) (ret := ret) ho hl hin hse hcode hy hK (by rw [hT]; exact hcB) hoB hclB hg (hsize.trans hml.symm) (argsL := As) (rest := rest) (fun sig h => hn.trans (hlen sig h)) hstack hW (by rw [hb]; exact hdg)
    (fun vm₁ hW₁ => ⟨hf.1, hf.2, hPc (T.setVm vm₁) hT hW₁⟩)
  dsimp only [Pt.U, Pt.locs, Pt.cells, Pt.slots] at X' e1 e2 h1 h2 h3 st
  subst h1; subst h2; subst h3
  exact ⟨v, (T.setVm vm₁).calling g' mk (Value.ref b :: As).toArray, t, U', L, hT, X', hL, e1, e2, hq, st⟩
section
variable {y : MethodName} {bytes cc : ByteArray} {maxL nL mc ms n index : Nat} {ret : Option FieldType} {ws : List Cond} {rm : Room} {Pc : Array Value → State → Prop} {Qc : Array Value → State → Outcome → State → Prop} {XC : String → State → State → Prop} {free : Addr → Prop} {Ts : List Cond} {own C : String} {b : Addr} {As rest : List Value} {g : JFrame}
theorem vx_runVX {hh : List (Nat × Nat × Nat × Nat)} (S : CallFix p m c cc nL s args Ts own) (hM : vx_Met l y ws rm Pc Qc XC mc ms free) (cw : vx_CVW R s args own C index y bytes maxL ret hh ws rm mc ms n) (hp : PreV s H C b Pc As)
    (hg : g.method = m) (hn : As.length = n) (hsize : g.locals.size = nL) (hstack : g.stack = As.reverse ++ .ref b :: rest) (hW : 2 * g.monitorRoom + (rest.map fun v => v.category).sum ≤ 8) (hdg : decode cc g.pc = .ok (.invokevirtual index, 3)) (hf : cells + mc ≤ R.cells ∧ slots + ms ≤ R.slots) :
    vx_Run p l e R s m args below meth c H locs cells slots mc ms g rest (Qc (Value.ref b :: As).toArray) XC free := by
  obtain ⟨⟨hrc, hrs, hfr, hlo, hws, hcw⟩, hcode, hini, hy, hlen, hl, hin, hse⟩ := cw
  have hK : vx_Back l R p e below s args y 3 8 (PreOf R mc ms Pc) (PostOf Qc mc ms free) (vx_Post XC mc ms free) := vx_backW (hh := hh) (bytes := bytes) (maxL := maxL) (ret := ret) hM hp.1 hrc hrs hfr hlo hws hcw (fun a' U hW => word_at hW (Or.inl (by first | rfl | simp [Cond.onTables, Cond.keeps, Cond.steady])) hini)
  obtain ⟨hx, hb, hml, ho, -⟩ := S
  obtain ⟨-, ⟨cellB, hcB, hoB, hclB⟩, hPc⟩ := hp
  intro T hT X
  rcases vx_callVX X hx (C := C) (hh := hh) (bytes := bytes) (maxL := maxL) (ret := ret) ho hl hin hse hcode hy hK (by rw [hT]; exact hcB) hoB hclB hg (hsize.trans hml.symm) (argsL := As) (rest := rest) (fun sig h => hn.trans (hlen sig h)) hstack hW (by rw [hb]; exact hdg)
    (fun vm₁ hW₁ => ⟨hf.1, hf.2, hPc (T.setVm vm₁) hT hW₁⟩) with ⟨v, vm₁, ⟨U', l2, c2, s2⟩, hW₁, X', ⟨g', mk, t, L, e1, e2, hq, h1, hL, h2, h3⟩, st⟩ | ⟨q, vm₁, ⟨U', l2, c2, s2⟩, hW₁, X', ⟨g', mk, t, L, E, ce, e1, e2, hq, hce, hcv, hcl, h1, hL, h2, h3⟩, st⟩
  · dsimp only [Pt.U, Pt.locs, Pt.cells, Pt.slots] at X' e1 e2 h1 h2 h3 st
    subst h1; subst h2; subst h3
    exact Or.inl ⟨v, (T.setVm vm₁).calling g' mk (Value.ref b :: As).toArray, t, U', L, hT, X', hL, e1, e2, hq, st⟩
  · dsimp only [Pt.U, Pt.locs, Pt.cells, Pt.slots] at X' e1 e2 h1 h2 h3 st hcl
    subst h1; subst h2; subst h3
    exact Or.inr ⟨q, (T.setVm vm₁).calling g' mk (Value.ref b :: As).toArray, t, U', L, E, ce, hT, X', hL, e1, e2, hq, hce, hcv, vx_cls hW₁ hcl, st⟩
theorem vx_runSX {hh : List (Nat × Nat × Nat × Nat)} (S : CallFix p m c cc nL s args Ts own) (hM : vx_Met l y ws rm Pc Qc XC mc ms free) (cw : vx_CSW R s args own index y bytes maxL ret hh ws rm mc ms n) (hp : PreS s H Pc As)
    (hg : g.method = m) (hn : As.length = n) (hsize : g.locals.size = nL) (hstack : g.stack = As.reverse ++ rest) (hW : 2 * g.monitorRoom + (rest.map fun v => v.category).sum ≤ 8) (hdg : decode cc g.pc = .ok (.invokestatic index, 3)) (hf : cells + mc ≤ R.cells ∧ slots + ms ≤ R.slots) :
    vx_Run p l e R s m args below meth c H locs cells slots mc ms g rest (Qc As.toArray) XC free := by
  obtain ⟨⟨hrc, hrs, hfr, hlo, hws, hcw⟩, hcode, hini, hy, hlen, hl, hstt⟩ := cw
  have hK : vx_Back l R p e below s args y 3 8 (PreOf R mc ms Pc) (PostOf Qc mc ms free) (vx_Post XC mc ms free) := vx_backW (hh := hh) (bytes := bytes) (maxL := maxL) (ret := ret) hM hp.1 hrc hrs hfr hlo hws hcw (fun a' U hW => word_at hW (Or.inl (by first | rfl | simp [Cond.onTables, Cond.keeps, Cond.steady])) hini)
  obtain ⟨hx, hb, hml, ho, -⟩ := S
  intro T hT X
  rcases vx_callSX X hx (hh := hh) (bytes := bytes) (maxL := maxL) (ret := ret) ho hl hstt hini hcode hy hK hg (hsize.trans hml.symm) (argsL := As) (rest := rest) (fun sig h => hn.trans (hlen sig h)) hstack hW (by rw [hb]; exact hdg)
    (fun vm₁ hW₁ => ⟨hf.1, hf.2, hp.2 (T.setVm vm₁) hT hW₁⟩) with ⟨v, vm₁, ⟨U', l2, c2, s2⟩, hW₁, X', ⟨g', mk, t, L, e1, e2, hq, h1, hL, h2, h3⟩, st⟩ | ⟨q, vm₁, ⟨U', l2, c2, s2⟩, hW₁, X', ⟨g', mk, t, L, E, ce, e1, e2, hq, hce, hcv, hcl, h1, hL, h2, h3⟩, st⟩
  · dsimp only [Pt.U, Pt.locs, Pt.cells, Pt.slots] at X' e1 e2 h1 h2 h3 st
    subst h1; subst h2; subst h3
    exact Or.inl ⟨v, (T.setVm vm₁).calling g' mk As.toArray, t, U', L, hT, X', hL, e1, e2, hq, st⟩
  · dsimp only [Pt.U, Pt.locs, Pt.cells, Pt.slots] at X' e1 e2 h1 h2 h3 st hcl
    subst h1; subst h2; subst h3
    exact Or.inr ⟨q, (T.setVm vm₁).calling g' mk As.toArray, t, U', L, E, ce, hT, X', hL, e1, e2, hq, hce, hcv, vx_cls hW₁ hcl, st⟩
end
end VXH
theorem vx_ofWH {l : Launch} {y : MethodName} {ws ws' : List Cond} {rm : Room} {Pc : Array Value → State → Prop} {Qc : Array Value → State → Outcome → State → Prop} {XC : String → State → State → Prop} {mc ms : Nat} {free : Addr → Prop} {cc : ByteArray} {maxL : Nat} {ret : Option FieldType} {hh : List (Nat × Nat × Nat × Nat)}
    (hy : plainName y.cls = true) (hw : ws = Cond.codeWith y cc maxL ret hh :: ws')
    (body : ∀ p e s m args below meth c s₁, BodyLoose p l y (headSpec ws rm) cc maxL ret e s m args below meth c s₁ → c.maxLocals = maxL → Pc args s →
      W p l e (headSpec ws rm).room s m args below meth c s.heap [] 0 0 (vx_MQ below Qc XC args s mc ms free) (entryFrame m args maxL)) : vx_Met l y ws rm Pc Qc XC mc ms free := by
  refine MetFree.of_bodyS (code := cc) (maxLocals := maxL) (ret := ret) hy ?_ ?_
  · intro args s m h hn
    obtain ⟨m9, meth, c, hn9, h1, h2, h3, h4, -, h5, h6, -⟩ := Cond.codeWith_spec (atoms_spec (ws := ws) h _ (by rw [hw]; exact List.mem_cons_self))
    cases hn.symm.trans hn9
    exact ⟨meth, c, h1, h2, h3, h4, h5, h6⟩
  · intro p e s m args below meth c s₁ B hml hP _
    have hh0 : s₁.heap = s.heap := by rw [B.state]; rfl
    obtain ⟨t, a1, o, b1, b2, b3⟩ := body p e s m args below meth c s₁ B hml hP s₁ hh0 (Stand.of_body B)
    exact ⟨t, o, a1, b1, b2, b3⟩
/-! ===== END ===== -/
end
section
/-! THE ABSTRACT MACHINE: values, cells and heaps by number; what a heap by numbers says of the machine's heap -/
abbrev am_V : Type := Value ⊕ (Nat × Nat)
abbrev am_C : Type := (Nat × Nat × (Nat → Int32)) ⊕ ((Nat × Nat × (Nat → Nat → Int32)) ⊕ ((Nat × List am_V) ⊕ (Nat × (Nat → Int64))))
abbrev am_H : Type := List am_C
abbrev am_O : Type := (Option am_V ⊕ Nat) × am_H
abbrev am_A : Type := (Nat → Option Nat → Nat) × (Nat → Nat)
abbrev am_Lv : Type := List (Nat × am_V)
abbrev am_I : Type := List (Nat × Instr × Nat)
/-- a value: cell k by its address, row j of the grid k by its own, the constant array j by its own -/
def am_t (ad : am_A) : am_V → Value
  | .inl (.ref k) => .ref (ad.1 k none)
  | .inl (.retAddr j) => .ref (ad.2 j)
  | .inl v => v
  | .inr q => .ref (ad.1 q.1 (some q.2))
def am_cat : am_V → Nat
  | .inl v => v.category
  | .inr _ => 1
theorem am_t_cat (ad : am_A) (v : am_V) : (am_t ad v).category = am_cat v := by
  cases v with
  | inl v => cases v <;> rfl
  | inr q => rfl
/-- the machine's cells of the cell k -/
def am_w1 (tc : Nat → ClassId) (ad : am_A) (k : Nat) : am_C → va_W
  | .inl (t, n, f) => [(ad.1 k none, .inl (tc t, n, .inl f))]
  | .inr (.inl (n, w, M)) => (ad.1 k none, .inl (tc 2, n, .inr (.inr (.inr (.inr (fun i => if i < n then some (ad.1 k (some i)) else none)))))) :: (List.range n).map (fun i => (ad.1 k (some i), .inl (tc 0, w, .inl (M i))))
  | .inr (.inr (.inl (ci, fs))) => [(ad.1 k none, .inr (ci, fs.map (am_t ad)))]
  | .inr (.inr (.inr (n, g))) => [(ad.1 k none, .inl (tc 3, n, .inr (.inl g)))]
def am_ws (tc : Nat → ClassId) (ad : am_A) : Nat → am_H → va_W
  | _, [] => []
  | k, c :: h => am_w1 tc ad k c ++ am_ws tc ad (k + 1) h
theorem am_split {tc : Nat → ClassId} {ad : am_A} : ∀ {h : am_H} {k0 k : Nat} {c : am_C}, h[k]? = some c → ∃ pre post : va_W, am_ws tc ad k0 h = pre ++ (am_w1 tc ad (k0 + k) c ++ post) ∧ ∀ c', am_ws tc ad k0 (h.set k c') = pre ++ (am_w1 tc ad (k0 + k) c' ++ post)
  | [], k0, k, c, hk => by simp at hk
  | d :: h, k0, 0, c, hk => by
    simp at hk
    subst hk
    exact ⟨[], am_ws tc ad (k0 + 1) h, rfl, fun c' => rfl⟩
  | d :: h, k0, k + 1, c, hk => by
    have hk' : h[k]? = some c := by simpa using hk
    obtain ⟨pre, post, e1, e2⟩ := am_split (tc := tc) (ad := ad) (k0 := k0 + 1) hk'
    refine ⟨am_w1 tc ad k0 d ++ pre, post, ?_, fun c' => ?_⟩
    · show am_w1 tc ad k0 d ++ am_ws tc ad (k0 + 1) h = _
      rw [e1, List.append_assoc, show k0 + (k + 1) = k0 + 1 + k by omega]
    · show am_w1 tc ad k0 d ++ am_ws tc ad (k0 + 1) (h.set k c') = _
      rw [e2 c', List.append_assoc, show k0 + (k + 1) = k0 + 1 + k by omega]
theorem am_pos {pre w post : va_W} {j : Nat} {x : Nat × va_E} (h : w[j]? = some x) : (pre ++ (w ++ post))[pre.length + j]? = some x := by
  rw [List.getElem?_append_right (Nat.le_add_right _ _), Nat.add_sub_cancel_left, List.getElem?_append_left (List.getElem?_eq_some_iff.mp h).1]
  exact h
theorem am_setw {pre w post : va_W} {j : Nat} {x : Nat × va_E} (h : j < w.length) : (pre ++ (w ++ post)).set (pre.length + j) x = pre ++ (w.set j x ++ post) := by
  rw [List.set_append_right _ _ (Nat.le_add_right _ _), Nat.add_sub_cancel_left, List.set_append_left _ _ h]
def am_tys (tc : Nat → ClassId) : List (ClassId × FieldType) := [(tc 0, .int), (tc 1, .boolean), (tc 2, .array .int), (tc 3, .long)]
/-- the constant arrays -/
def am_ro (rs : Nat → Option (Nat × (Nat → Int32))) (ra : Nat → Nat) (A : Nat → Prop) (U : State) (H : Heap) : Prop := ∀ (j n : Nat) (f : Nat → Int32), rs j = some (n, f) → va_T .int (ra j) n (fun i => .int (f i)) A U H
/-- the heap by numbers, as the machine holds it -/
def am_J (D : va_G) (cl : List vw_C) (tc : Nat → ClassId) (A : Nat → Prop) (s : State) (n0 : Nat) (ad0 : am_A) (ad : am_A) (h : am_H) (H : Heap) (locs : List Loc) : Prop :=
  n0 ≤ h.length ∧ (∀ k, k < n0 → ad.1 k = ad0.1 k) ∧ ad.2 = ad0.2 ∧ va_P D cl (am_ws tc ad 0 h) H ∧ va_D A (am_ws tc ad 0 h) ∧ va_S A s.heap H locs
/-- a read: the place of cell k's j-th machine cell -/
theorem am_rd {D : va_G} {cl : List vw_C} {tc : Nat → ClassId} {A : Nat → Prop} {s : State} {n0 : Nat} {ad0 ad : am_A} {h : am_H} {H : Heap} {locs : List Loc} (J : am_J D cl tc A s n0 ad0 ad h H locs) {k : Nat} {c : am_C} (hk : h[k]? = some c) (j : Nat) {y : Nat × va_E} (hy : (am_w1 tc ad k c)[j]? = some y) : ∃ q0 : Nat, (am_ws tc ad 0 h)[q0]? = some y := by
  obtain ⟨pre, post, e1, -⟩ := am_split (tc := tc) (ad := ad) (k0 := 0) hk
  rw [Nat.zero_add] at e1
  exact ⟨pre.length + j, by rw [e1]; exact am_pos hy⟩
/-- a write: cell k becomes c', its j-th machine cell x -/
theorem am_wr {D : va_G} {cl : List vw_C} {tc : Nat → ClassId} {A : Nat → Prop} {s : State} {n0 : Nat} {ad0 ad : am_A} {h : am_H} {H : Heap} {locs : List Loc} (J : am_J D cl tc A s n0 ad0 ad h H locs) {k : Nat} {c : am_C} (hk : h[k]? = some c) (c' : am_C) (j : Nat) (x : Nat × va_E) (hj : j < (am_w1 tc ad k c).length) (ew : am_w1 tc ad k c' = (am_w1 tc ad k c).set j x) :
    ∃ q0 : Nat, (∀ y, (am_w1 tc ad k c)[j]? = some y → (am_ws tc ad 0 h)[q0]? = some y) ∧ ∀ (H1 : Heap) (locs1 : List Loc), va_P D cl ((am_ws tc ad 0 h).set q0 x) H1 → va_D A ((am_ws tc ad 0 h).set q0 x) → va_S A s.heap H1 locs1 → am_J D cl tc A s n0 ad0 ad (h.set k c') H1 locs1 := by
  obtain ⟨pre, post, e1, e2⟩ := am_split (tc := tc) (ad := ad) (k0 := 0) hk
  rw [Nat.zero_add] at e1 e2
  obtain ⟨j1, j2, j3, j4, j5, j6⟩ := J
  refine ⟨pre.length + j, fun y hy => by rw [e1]; exact am_pos hy, fun H1 locs1 hP hD hS => ?_⟩
  have e3 : (am_ws tc ad 0 h).set (pre.length + j) x = am_ws tc ad 0 (h.set k c') := by rw [e1, am_setw hj, e2 c', ew]
  rw [e3] at hP hD
  exact ⟨by rw [List.length_set]; exact j1, j2, j3, hP, hD, hS⟩
/-- one row of a grid, one array -/
theorem am_rowset {α : Type} (g g' : Nat → α) (n j : Nat) (x : α) (hj : j < n) (h1 : g' j = x) (h2 : ∀ a, a ≠ j → g' a = g a) : (List.range n).map g' = ((List.range n).map g).set j x := by
  apply List.ext_getElem?
  intro a
  by_cases ha : a = j
  · subst ha
    rw [List.getElem?_set_self (by simpa using hj)]
    simp [hj, h1]
  · rw [List.getElem?_set_ne (Ne.symm ha)]
    by_cases hn : a < n
    · simp [hn, h2 a ha]
    · simp [hn]
section AMJ
variable {D : va_G} {cl : List vw_C} {tc : Nat → ClassId} {A : Nat → Prop} {s : State} {n0 : Nat} {ad0 ad : am_A} {h : am_H} {H : Heap} {locs : List Loc}
theorem am_rdR (J : am_J D cl tc A s n0 ad0 ad h H locs) {k n w j : Nat} {M : Nat → Nat → Int32} (hk : h[k]? = some (.inr (.inl (n, w, M)))) (hj : j < n) : ∃ q0 : Nat, (am_ws tc ad 0 h)[q0]? = some (ad.1 k (some j), .inl (tc 0, w, .inl (M j))) := by
  refine am_rd J hk (j + 1) ?_
  show ((List.range n).map (fun i => (ad.1 k (some i), (Sum.inl (tc 0, w, .inl (M i)) : va_E))))[j]? = _
  rw [List.getElem?_map, List.getElem?_range hj]
  rfl
theorem am_wrR (J : am_J D cl tc A s n0 ad0 ad h H locs) {k n w j : Nat} {M : Nat → Nat → Int32} (hk : h[k]? = some (.inr (.inl (n, w, M)))) (hj : j < n) (f : Nat → Int32) : ∃ q0 : Nat, (am_ws tc ad 0 h)[q0]? = some (ad.1 k (some j), .inl (tc 0, w, .inl (M j))) ∧ ∀ (H1 : Heap) (locs1 : List Loc), va_P D cl ((am_ws tc ad 0 h).set q0 (ad.1 k (some j), .inl (tc 0, w, .inl f))) H1 → va_D A ((am_ws tc ad 0 h).set q0 (ad.1 k (some j), .inl (tc 0, w, .inl f))) → va_S A s.heap H1 locs1 → am_J D cl tc A s n0 ad0 ad (h.set k (.inr (.inl (n, w, va_up M j f)))) H1 locs1 := by
  obtain ⟨q0, g1, g2⟩ := am_wr J hk (.inr (.inl (n, w, va_up M j f))) (j + 1) (ad.1 k (some j), .inl (tc 0, w, .inl f)) (by
    show j + 1 < ((List.range n).map (fun i => (ad.1 k (some i), (Sum.inl (tc 0, w, .inl (M i)) : va_E)))).length + 1
    rw [List.length_map, List.length_range]
    exact Nat.succ_lt_succ hj) (by
    show _ :: (List.range n).map (fun i => (ad.1 k (some i), (Sum.inl (tc 0, w, .inl (va_up M j f i)) : va_E))) = _ :: ((List.range n).map (fun i => (ad.1 k (some i), (Sum.inl (tc 0, w, .inl (M i)) : va_E)))).set j _
    congr 1
    exact am_rowset _ _ _ _ _ hj (by rw [va_up_self]) (fun a ha => by rw [show va_up M j f a = M a from if_neg ha]))
  refine ⟨q0, g1 _ ?_, g2⟩
  show ((List.range n).map (fun i => (ad.1 k (some i), (Sum.inl (tc 0, w, .inl (M i)) : va_E))))[j]? = _
  rw [List.getElem?_map, List.getElem?_range hj]
  rfl
theorem am_wrA (J : am_J D cl tc A s n0 ad0 ad h H locs) {k t n : Nat} {f : Nat → Int32} (hk : h[k]? = some (.inl (t, n, f))) (f' : Nat → Int32) : ∃ q0 : Nat, (am_ws tc ad 0 h)[q0]? = some (ad.1 k none, .inl (tc t, n, .inl f)) ∧ ∀ (H1 : Heap) (locs1 : List Loc), va_P D cl ((am_ws tc ad 0 h).set q0 (ad.1 k none, .inl (tc t, n, .inl f'))) H1 → va_D A ((am_ws tc ad 0 h).set q0 (ad.1 k none, .inl (tc t, n, .inl f'))) → va_S A s.heap H1 locs1 → am_J D cl tc A s n0 ad0 ad (h.set k (.inl (t, n, f'))) H1 locs1 := by
  obtain ⟨q0, g1, g2⟩ := am_wr J hk (.inl (t, n, f')) 0 (ad.1 k none, .inl (tc t, n, .inl f')) (by show 0 < 1; exact Nat.one_pos) rfl
  exact ⟨q0, g1 _ rfl, g2⟩
theorem am_wrL (J : am_J D cl tc A s n0 ad0 ad h H locs) {k n : Nat} {f : Nat → Int64} (hk : h[k]? = some (.inr (.inr (.inr (n, f))))) (f' : Nat → Int64) : ∃ q0 : Nat, (am_ws tc ad 0 h)[q0]? = some (ad.1 k none, .inl (tc 3, n, .inr (.inl f))) ∧ ∀ (H1 : Heap) (locs1 : List Loc), va_P D cl ((am_ws tc ad 0 h).set q0 (ad.1 k none, .inl (tc 3, n, .inr (.inl f')))) H1 → va_D A ((am_ws tc ad 0 h).set q0 (ad.1 k none, .inl (tc 3, n, .inr (.inl f')))) → va_S A s.heap H1 locs1 → am_J D cl tc A s n0 ad0 ad (h.set k (.inr (.inr (.inr (n, f'))))) H1 locs1 := by
  obtain ⟨q0, g1, g2⟩ := am_wr J hk (.inr (.inr (.inr (n, f')))) 0 (ad.1 k none, .inl (tc 3, n, .inr (.inl f'))) (by show 0 < 1; exact Nat.one_pos) rfl
  exact ⟨q0, g1 _ rfl, g2⟩
theorem am_wrO (J : am_J D cl tc A s n0 ad0 ad h H locs) {k ci : Nat} {fs : List am_V} (hk : h[k]? = some (.inr (.inr (.inl (ci, fs))))) (fs' : List am_V) : ∃ q0 : Nat, (am_ws tc ad 0 h)[q0]? = some (ad.1 k none, .inr (ci, fs.map (am_t ad))) ∧ ∀ (H1 : Heap) (locs1 : List Loc), va_P D cl ((am_ws tc ad 0 h).set q0 (ad.1 k none, .inr (ci, fs'.map (am_t ad)))) H1 → va_D A ((am_ws tc ad 0 h).set q0 (ad.1 k none, .inr (ci, fs'.map (am_t ad)))) → va_S A s.heap H1 locs1 → am_J D cl tc A s n0 ad0 ad (h.set k (.inr (.inr (.inl (ci, fs'))))) H1 locs1 := by
  obtain ⟨q0, g1, g2⟩ := am_wr J hk (.inr (.inr (.inl (ci, fs')))) 0 (ad.1 k none, .inr (ci, fs'.map (am_t ad))) (by show 0 < 1; exact Nat.one_pos) rfl
  exact ⟨q0, g1 _ rfl, g2⟩
end AMJ
/-- the judgement: from here, with these locals, stack, heap and room left, the machine comes to Q -/
def am_W (p : Program) (l : Launch) (e : Env) (R : Room) (s : State) (m : MethodId) (args : Array Value) (below : List Frame) (meth : Method) (c : Code) (Q : State → Prop) (D : va_G) (cl : List vw_C) (tc : Nat → ClassId) (A : Nat → Prop) (nL n0 : Nat) (ad0 : am_A) (pc : Nat) (lv : am_Lv) (st : List am_V) (h : am_H) (b : Nat × Nat) : Prop :=
  ∀ (ad : am_A) (H : Heap) (locs : List Loc) (cells slots : Nat) (ls : Array Slot), am_J D cl tc A s n0 ad0 ad h H locs → lv_has ls nL (lv.map fun q => (q.1, am_t ad q.2)) → cells + b.1 ≤ R.cells → slots + b.2 ≤ R.slots → W p l e R s m args below meth c H locs cells slots Q (F0 m pc ls (st.map (am_t ad)))
def am_G (p : Program) (m : MethodId) (c : Code) (cc : ByteArray) (nL : Nat) (s : State) (args : Array Value) (Ts : List Cond) (own : String) (D : va_G) (cl : List vw_C) (tc : Nat → ClassId) (A : Nat → Prop) (rs : Nat → Option (Nat × (Nat → Int32))) (ad0 : am_A) : Prop :=
  CallFix p m c cc nL s args Ts own ∧ va_K D cl (am_tys tc) s ∧ (∀ q, s.heap.size ≤ q → A q) ∧ am_ro rs ad0.2 A s s.heap
/-! the run, with what comes next as an argument -/
def am_sv (lv : am_Lv) (i : Nat) (v : am_V) : am_Lv := (i, v) :: lv.filter (fun q => !(q.1 == i) && !(q.1 + 1 == i && am_cat q.2 == 2))
abbrev am_K1 : Type := am_Lv → List am_V → Option am_O
abbrev am_K2 : Type := List am_V → am_H → Option am_O
abbrev am_K3 : Type := List am_V → am_H → Nat × Nat → Option am_O
def am_li (lv : am_Lv) (k : Nat) (st : List am_V) (K : am_K1) : Option am_O := match lv.lookup k with
  | some (.inl (.int x)) => K lv (.inl (.int x) :: st)
  | _ => none
def am_la (lv : am_Lv) (k : Nat) (st : List am_V) (K : am_K1) : Option am_O := match lv.lookup k with
  | some (.inl (.ref x)) => K lv (.inl (.ref x) :: st)
  | some (.inl (.retAddr x)) => K lv (.inl (.retAddr x) :: st)
  | some (.inr x) => K lv (.inr x :: st)
  | _ => none
def am_si (nL : Nat) (lv : am_Lv) (k : Nat) (st : List am_V) (K : am_K1) : Option am_O := match st with
  | .inl (.int x) :: r => if k < nL then K (am_sv lv k (.inl (.int x))) r else none
  | _ => none
def am_sa (nL : Nat) (lv : am_Lv) (k : Nat) (st : List am_V) (K : am_K1) : Option am_O := match st with
  | .inl (.ref x) :: r => if k < nL then K (am_sv lv k (.inl (.ref x))) r else none
  | .inl (.retAddr x) :: r => if k < nL then K (am_sv lv k (.inl (.retAddr x))) r else none
  | .inr x :: r => if k < nL then K (am_sv lv k (.inr x)) r else none
  | _ => none
def am_2 (lv : am_Lv) (st : List am_V) (g : Int32 → Int32 → Int32) (K : am_K1) : Option am_O := match st with
  | .inl (.int y) :: .inl (.int x) :: r => K lv (.inl (.int (g x y)) :: r)
  | _ => none
def am_2z (lv : am_Lv) (st : List am_V) (g : Int32 → Int32 → Int32) (K : am_K1) : Option am_O := match st with
  | .inl (.int y) :: .inl (.int x) :: r => if y = 0 then none else K lv (.inl (.int (g x y)) :: r)
  | _ => none
def am_ic (nL : Nat) (lv : am_Lv) (k : Nat) (z : Int) (st : List am_V) (K : am_K1) : Option am_O := match lv.lookup k with
  | some (.inl (.int x)) => if k < nL then K (am_sv lv k (.inl (.int (x + Int32.ofInt z)))) st else none
  | _ => none
def am_du (lv : am_Lv) (st : List am_V) (K : am_K1) : Option am_O := match st with
  | v :: r => if am_cat v = 1 then K lv (v :: v :: r) else none
  | _ => none
def am_d2 (lv : am_Lv) (st : List am_V) (K : am_K1) : Option am_O := match st with
  | v :: w :: r => if am_cat v = 1 then (if am_cat w = 1 then K lv (v :: w :: v :: w :: r) else none) else none
  | _ => none
def am_dx (lv : am_Lv) (st : List am_V) (K : am_K1) : Option am_O := match st with
  | v :: w :: r => if am_cat v = 1 then (if am_cat w = 1 then K lv (v :: w :: v :: r) else none) else none
  | _ => none
def am_po (lv : am_Lv) (st : List am_V) (K : am_K1) : Option am_O := match st with
  | v :: r => if am_cat v = 1 then K lv r else none
  | _ => none
def am_il (lv : am_Lv) (st : List am_V) (K : am_K1) : Option am_O := match st with
  | .inl (.int x) :: r => K lv (.inl (.long x.toInt64) :: r)
  | _ => none
def am_lc (lv : am_Lv) (st : List am_V) (K : am_K1) : Option am_O := match st with
  | .inl (.long y) :: .inl (.long x) :: r => K lv (.inl (.int (lg_cmp x y)) :: r)
  | _ => none
def am_s1 (nL : Nat) (i : Instr) (n : Nat) (lv : am_Lv) (st : List am_V) (K : am_K1) : Option am_O := match i with
  | .iconst z => if n = 1 then K lv (.inl (.int (Int32.ofInt z)) :: st) else none
  | .bipush z => if n = 2 then K lv (.inl (.int (Int8.ofInt z).toInt32) :: st) else none
  | .sipush z => if n = 3 then K lv (.inl (.int (Int16.ofInt z).toInt32) :: st) else none
  | .iload k => if n = 2 then am_li lv k st K else none
  | .iload_n k => if n = 1 then am_li lv k.val st K else none
  | .aload k => if n = 2 then am_la lv k st K else none
  | .aload_n k => if n = 1 then am_la lv k.val st K else none
  | .istore k => if n = 2 then am_si nL lv k st K else none
  | .istore_n k => if n = 1 then am_si nL lv k.val st K else none
  | .astore k => if n = 2 then am_sa nL lv k st K else none
  | .astore_n k => if n = 1 then am_sa nL lv k.val st K else none
  | .iinc k z => if n = 3 then am_ic nL lv k z st K else none
  | .iadd => if n = 1 then am_2 lv st (fun x y => x + y) K else none
  | .isub => if n = 1 then am_2 lv st (fun x y => x - y) K else none
  | .imul => if n = 1 then am_2 lv st (fun x y => x * y) K else none
  | .iand => if n = 1 then am_2 lv st (fun x y => x &&& y) K else none
  | .ior => if n = 1 then am_2 lv st (fun x y => x ||| y) K else none
  | .ixor => if n = 1 then am_2 lv st (fun x y => x ^^^ y) K else none
  | .idiv => if n = 1 then am_2z lv st (fun x y => x / y) K else none
  | .irem => if n = 1 then am_2z lv st (fun x y => x - x / y * y) K else none
  | .dup => if n = 1 then am_du lv st K else none
  | .dup2 => if n = 1 then am_d2 lv st K else none
  | .dup_x1 => if n = 1 then am_dx lv st K else none
  | .pop => if n = 1 then am_po lv st K else none
  | .i2l => if n = 1 then am_il lv st K else none
  | .lcmp => if n = 1 then am_lc lv st K else none
  | _ => none
/-! arrays -/
def am_in (i : Int32) (n : Nat) : Bool := !(decide (i < 0) || decide (n ≤ i.toNatClampNeg))
def am_nar (t : Nat) (x : Int32) : Int32 := if t = 1 then vp_nar .boolean x else x
def am_ld (t : Nat) (rs : Nat → Option (Nat × (Nat → Int32))) (st : List am_V) (h : am_H) (K : am_K2) : Option am_O := match st with
  | .inl (.int i) :: .inl (.ref k) :: r => (match h[k]? with
    | some (.inl (t', n, f)) => if t' = t then (bif am_in i n then K (.inl (.int (f i.toNatClampNeg)) :: r) h else none) else none
    | _ => none)
  | .inl (.int i) :: .inr (k, j) :: r => (match h[k]? with
    | some (.inr (.inl (n, w, M))) => if t = 0 then (bif decide (j < n) && am_in i w then K (.inl (.int (M j i.toNatClampNeg)) :: r) h else none) else none
    | _ => none)
  | .inl (.int i) :: .inl (.retAddr j) :: r => (match rs j with
    | some (n, f) => if t = 0 then (bif am_in i n then K (.inl (.int (f i.toNatClampNeg)) :: r) h else none) else none
    | _ => none)
  | _ => none
def am_sr (t : Nat) (st : List am_V) (h : am_H) (K : am_K2) : Option am_O := match st with
  | .inl (.int x) :: .inl (.int i) :: .inl (.ref k) :: r => (match h[k]? with
    | some (.inl (t', n, f)) => if t' = t then (bif am_in i n then K r (h.set k (.inl (t', n, upd f i.toNatClampNeg (am_nar t' x)))) else none) else none
    | _ => none)
  | .inl (.int x) :: .inl (.int i) :: .inr (k, j) :: r => (match h[k]? with
    | some (.inr (.inl (n, w, M))) => if t = 0 then (bif decide (j < n) && am_in i w then K r (h.set k (.inr (.inl (n, w, va_up M j (upd (M j) i.toNatClampNeg x))))) else none) else none
    | _ => none)
  | _ => none
def am_al (rs : Nat → Option (Nat × (Nat → Int32))) (st : List am_V) (h : am_H) (K : am_K2) : Option am_O := match st with
  | .inl (.ref k) :: r => (match h[k]? with
    | some (.inl (t, n, _)) => if t < 2 then K (.inl (.int (Int32.ofNat n)) :: r) h else none
    | some (.inr (.inl (n, _))) => K (.inl (.int (Int32.ofNat n)) :: r) h
    | _ => none)
  | .inr (k, j) :: r => (match h[k]? with
    | some (.inr (.inl (n, w, _))) => bif decide (j < n) then K (.inl (.int (Int32.ofNat w)) :: r) h else none
    | _ => none)
  | .inl (.retAddr j) :: r => (match rs j with
    | some (n, _) => K (.inl (.int (Int32.ofNat n)) :: r) h
    | _ => none)
  | _ => none
def am_aa (st : List am_V) (h : am_H) (K : am_K2) : Option am_O := match st with
  | .inl (.int i) :: .inl (.ref k) :: r => (match h[k]? with
    | some (.inr (.inl (n, _))) => bif am_in i n then K (.inr (k, i.toNatClampNeg) :: r) h else none
    | _ => none)
  | _ => none
def am_ll (st : List am_V) (h : am_H) (K : am_K2) : Option am_O := match st with
  | .inl (.int i) :: .inl (.ref k) :: r => (match h[k]? with
    | some (.inr (.inr (.inr (n, f)))) => bif am_in i n then K (.inl (.long (f i.toNatClampNeg)) :: r) h else none
    | _ => none)
  | _ => none
def am_sl (st : List am_V) (h : am_H) (K : am_K2) : Option am_O := match st with
  | .inl (.long x) :: .inl (.int i) :: .inl (.ref k) :: r => (match h[k]? with
    | some (.inr (.inr (.inr (n, f)))) => bif am_in i n then K r (h.set k (.inr (.inr (.inr (n, vp_updL f i.toNatClampNeg x))))) else none
    | _ => none)
  | _ => none
def am_s2 (rs : Nat → Option (Nat × (Nat → Int32))) (i : Instr) (n : Nat) (st : List am_V) (h : am_H) (K : am_K2) : Option am_O := match i with
  | .iaload => if n = 1 then am_ld 0 rs st h K else none
  | .baload => if n = 1 then am_ld 1 rs st h K else none
  | .iastore => if n = 1 then am_sr 0 st h K else none
  | .bastore => if n = 1 then am_sr 1 st h K else none
  | .arraylength => if n = 1 then am_al rs st h K else none
  | .aaload => if n = 1 then am_aa st h K else none
  | .laload => if n = 1 then am_ll st h K else none
  | .lastore => if n = 1 then am_sl st h K else none
  | _ => none
/-! jumps -/
def am_cmp (k : Jvm.ClassFile.Cond) (x y : Int32) : Bool := match k with
  | .eq => decide (x = y)
  | .ne => !decide (x = y)
  | .lt => decide (x < y)
  | .ge => decide (y ≤ x)
  | .gt => decide (y < x)
  | .le => decide (x ≤ y)
def am_tg (pc : Nat) (off : Int) (K : Nat → Option am_O) : Option am_O := match (pc : Int) + off with
  | .ofNat t => K t
  | .negSucc _ => none
def am_tsl (x : Int32) (K : Int → Option am_O) (d : Int) : Int → List Int → Option am_O
  | _, [] => K d
  | v, o :: os => bif decide (x.toInt = v) then K o else am_tsl x K d (v + 1) os
def am_lsl (x : Int32) (K : Int → Option am_O) (d : Int) : List (Int × Int) → Option am_O
  | [] => K d
  | (v, o) :: os => bif decide (v = x.toInt) then K o else am_lsl x K d os
def am_br (pc : Nat) (i : Instr) (n : Nat) (st : List am_V) (K : List am_V → Nat → Option am_O) (N : List am_V → Option am_O) : Option am_O := match i with
  | .goto off => if n = 3 then am_tg pc off (fun t => K st t) else none
  | .if_icmp k off => if n = 3 then (match st with
    | .inl (.int y) :: .inl (.int x) :: r => am_tg pc off (fun t => bif am_cmp k x y then K r t else N r)
    | _ => none) else none
  | .ifCond k off => if n = 3 then (match st with
    | .inl (.int x) :: r => am_tg pc off (fun t => bif am_cmp k x 0 then K r t else N r)
    | _ => none) else none
  | .tableswitch d lo hi offs => (match st with
    | .inl (.int x) :: r => if hi = lo + offs.toList.length - 1 then am_tsl x (fun o => am_tg pc o (fun t => K r t)) d lo offs.toList else none
    | _ => none)
  | .lookupswitch d ps => (match st with
    | .inl (.int x) :: r => if (ps.toList.zip (ps.toList.drop 1)).all (fun (a, next) => a.1 < next.1) = true then am_lsl x (fun o => am_tg pc o (fun t => K r t)) d ps.toList else none
    | _ => none)
  | _ => none
/-! returns -/
def am_rt (rt : Option FieldType) (x : Int32) : Bool := match rt with
  | some .int => true
  | some .boolean => decide (x = 0) || decide (x = 1)
  | _ => false
def am_re (rt : Option FieldType) (i : Instr) (n : Nat) (st : List am_V) (h : am_H) : Option am_O := match i with
  | .ireturn => if n = 1 then (match st with
    | [.inl (.int x)] => bif am_rt rt x then some (.inl (some (.inl (.int x))), h) else none
    | _ => none) else none
  | .return_ => if n = 1 then (match st with
    | [] => if rt = none then some (.inl none, h) else none
    | _ => none) else none
  | _ => none
/-! what the pool's entries do -/
abbrev am_KX : Type := Nat → am_H → Nat × Nat → Option am_O
abbrev am_F : Type := am_I → am_Lv → List am_V → am_H → Nat × Nat → am_K3 → am_KX → Option am_O
abbrev am_X : Type := List ((Nat × Nat) × am_F)
def am_key (i : Instr) : Nat × Nat := match i with
  | .getfield k => (0, k)
  | .putfield k => (1, k)
  | .invokestatic k => (2, k)
  | .invokevirtual k => (3, k)
  | .invokespecial k => (4, k)
  | .new k => (5, k)
  | .getstatic k => (6, k)
  | .multianewarray k _ => (7, k)
  | .newarray .int => (8, 0)
  | .newarray .boolean => (8, 1)
  | .newarray .long => (8, 2)
  | _ => (99, 0)
/-- 0: neither heap nor jump, 1: an array, 2: a jump, 3: an end, 4: the pool's -/
def am_cls (i : Instr) : Nat := match i with
  | .iaload => 1
  | .baload => 1
  | .iastore => 1
  | .bastore => 1
  | .arraylength => 1
  | .aaload => 1
  | .laload => 1
  | .lastore => 1
  | .goto _ => 2
  | .if_icmp _ _ => 2
  | .ifCond _ _ => 2
  | .tableswitch _ _ _ _ => 2
  | .lookupswitch _ _ => 2
  | .ireturn => 3
  | .return_ => 3
  | .getfield _ => 4
  | .putfield _ => 4
  | .invokestatic _ => 4
  | .invokevirtual _ => 4
  | .invokespecial _ => 4
  | .new _ => 4
  | .getstatic _ => 4
  | .multianewarray _ _ => 4
  | .newarray _ => 4
  | _ => 0
abbrev am_Kj : Type := Nat → am_Lv → List am_V → am_H → Nat × Nat → Option am_O
def am_from (t : Nat) (is : am_I) : am_I := is.dropWhile (fun x => !(x.1 == t))
/-- the handler of an exception: from, to, its place, the class's entry, its number -/
abbrev am_Hs : Type := List (Nat × Nat × Nat × Nat × Nat)
/-- the exceptions' numbers are 0 .. 4; what is above stands for 4 -/
def am_x4 (x : Nat) : Nat := if x < 4 then x else 4
def am_fh (hs : am_Hs) (pc x : Nat) : Option Nat := match hs with
  | [] => none
  | (a, z, t, _, y) :: r => if a ≤ pc then (if pc < z then (if am_x4 x = y then some t else am_fh r pc x) else am_fh r pc x) else am_fh r pc x
def am_rm (lv : am_Lv) (k : Nat) : am_Lv := lv.filter (fun q => !(q.1 == k) && !(q.1 + 1 == k && am_cat q.2 == 2))
def am_go (X : am_X) (nL : Nat) (rt : Option FieldType) (rs : Nat → Option (Nat × (Nat → Int32))) (hs : am_Hs) (jmp : am_Kj) : Nat → am_I → am_Lv → List am_V → am_H → Nat × Nat → Option am_O
  | 0, _, _, _, _, _ => none
  | _ + 1, [], _, _, _, _ => none
  | f + 1, (pc, i, n) :: is, lv, st, h, b => match am_cls i with
    | 0 => am_s1 nL i n lv st (fun lv' st' => am_go X nL rt rs hs jmp f is lv' st' h b)
    | 1 => am_s2 rs i n st h (fun st' h' => am_go X nL rt rs hs jmp f is lv st' h' b)
    | 2 => am_br pc i n st (fun st' t => if t ≤ pc then jmp t lv st' h b else am_go X nL rt rs hs jmp f (am_from t is) lv st' h b) (fun st' => am_go X nL rt rs hs jmp f is lv st' h b)
    | 3 => am_re rt i n st h
    | _ => match X.lookup (am_key i) with
      | some φ => φ ((pc, i, n) :: is) lv st h b (fun st' h' b' => am_go X nL rt rs hs jmp f is lv st' h' b') (fun x h' b' => match am_fh hs pc x with
        | none => some (.inr x, h')
        | some t => (match am_from t is with
          | (_, .astore k, n9) :: is' => if n9 = 2 then (if k < nL then am_go X nL rt rs hs jmp f is' (am_rm lv k) [] h' b' else none) else none
          | (_, .astore_n k, n9) :: is' => if n9 = 1 then (if k.val < nL then am_go X nL rt rs hs jmp f is' (am_rm lv k.val) [] h' b' else none) else none
          | _ => none))
      | none => none
def am_lp (T : am_I) (X : am_X) (nL : Nat) (rt : Option FieldType) (rs : Nat → Option (Nat × (Nat → Int32))) (hs : am_Hs) : Nat → am_Kj
  | 0 => fun _ _ _ _ _ => none
  | n + 1 => fun pc lv st h b => am_go X nL rt rs hs (am_lp T X nL rt rs hs n) 1000 (am_from pc T) lv st h b
def am_args : Nat → List am_V → am_Lv
  | _, [] => []
  | i, v :: vs => (i, v) :: am_args (if am_cat v = 2 then i + 2 else i + 1) vs
end
section
/-! the run is sound: what it says, the machine does -/
theorem am_if {α : Type} {P : Prop} [Decidable P] {X : Option α} {y : α} (h : (if P then X else none) = some y) : P ∧ X = some y := by
  by_cases hP : P
  · rw [if_pos hP] at h; exact ⟨hP, h⟩
  · rw [if_neg hP] at h; cases h
theorem am_ifn {α : Type} {P : Prop} [Decidable P] {X : Option α} {y : α} (h : (if P then none else X) = some y) : ¬ P ∧ X = some y := by
  by_cases hP : P
  · rw [if_pos hP] at h; cases h
  · rw [if_neg hP] at h; exact ⟨hP, h⟩
theorem am_bif {α : Type} {b : Bool} {X : Option α} {y : α} (h : (bif b then X else none) = some y) : b = true ∧ X = some y := by
  cases b
  · cases h
  · exact ⟨rfl, h⟩
theorem am_lk : ∀ {lv : am_Lv} {k : Nat} {v : am_V}, lv.lookup k = some v → (k, v) ∈ lv
  | [], k, v, h => by simp at h
  | (k', v') :: lv, k, v, h => by
    simp only [List.lookup] at h
    split at h
    · rename_i e
      have := eq_of_beq e
      subst this
      cases h
      exact List.mem_cons_self
    · exact List.mem_cons_of_mem _ (am_lk h)
theorem am_lat {ls : Array Slot} {nL : Nat} {lv : am_Lv} {ad : am_A} {k : Nat} {v : am_V} (hl : lv_has ls nL (lv.map fun q => (q.1, am_t ad q.2))) (h : lv.lookup k = some v) : ls[k]? = some (.val (am_t ad v)) :=
  hl.2.2 (k, am_t ad v) (List.mem_map.mpr ⟨(k, v), am_lk h, rfl⟩)
theorem am_svm (ad : am_A) (lv : am_Lv) (i : Nat) (v : am_V) : (am_sv lv i v).map (fun q => (q.1, am_t ad q.2)) = (i, am_t ad v) :: (lv.map fun q => (q.1, am_t ad q.2)).filter (fun q => !(q.1 == i) && !(q.1 + 1 == i && q.2.category == 2)) := by
  simp only [am_sv, List.map_cons, List.filter_map, Function.comp_def, am_t_cat]
theorem am_invp {i : Int32} {n : Nat} (h : am_in i n = true) : vp_in i n := by
  simpa [am_in, vp_in] using h
section AMS
variable {p : Program} {l : Launch} {e : Env} {R : Room} {s : State} {m : MethodId} {args : Array Value} {below : List Frame} {meth : Method} {c : Code} {Q : State → Prop} {D : va_G} {cl : List vw_C} {tc : Nat → ClassId} {A : Nat → Prop} {nL n0 : Nat} {ad0 : am_A} {cc : ByteArray} {own : String} {Ts : List Cond} {rs : Nat → Option (Nat × (Nat → Int32))}
theorem am_s1_ok (G : am_G p m c cc nL s args Ts own D cl tc A rs ad0) {i : Instr} {n pc : Nat} {lv : am_Lv} {st : List am_V} {h : am_H} {b : Nat × Nat} {K : am_K1} {out : am_O} (hd : decode cc pc = .ok (i, n)) (h1 : am_s1 nL i n lv st K = some out) (kk : ∀ lv' st', K lv' st' = some out → am_W p l e R s m args below meth c Q D cl tc A nL n0 ad0 (pc + n) lv' st' h b) : am_W p l e R s m args below meth c Q D cl tc A nL n0 ad0 pc lv st h b := by
  obtain ⟨⟨hx, hb, hml, hown, hts⟩, hK, hA, hro⟩ := G
  intro ad H locs cells slots ls J hl hc hs
  have kk : ∀ lv' st', K lv' st' = some out → ∀ ls', lv_has ls' nL (lv'.map fun q => (q.1, am_t ad q.2)) → W p l e R s m args below meth c H locs cells slots Q (F0 m (pc + n) ls' (st'.map (am_t ad))) := fun lv' st' q ls' hl' => kk lv' st' q ad H locs cells slots ls' J hl' hc hs
  unfold am_s1 at h1
  split at h1
  · replace h1 := am_if h1
    obtain ⟨rfl, h1⟩ := h1
    exact lv_iconst hx hb hd rfl (kk _ _ h1 ls hl)
  · replace h1 := am_if h1
    obtain ⟨rfl, h1⟩ := h1
    exact lv_bipush hx hb hd rfl (kk _ _ h1 ls hl)
  · replace h1 := am_if h1
    obtain ⟨rfl, h1⟩ := h1
    exact lv_sipush hx hb hd rfl (kk _ _ h1 ls hl)
  · replace h1 := am_if h1
    obtain ⟨rfl, h1⟩ := h1
    unfold am_li at h1
    split at h1
    · rename_i hq
      exact lv_iload hx hb hd (am_lat hl hq) (kk _ _ h1 ls hl)
    · cases h1
  · replace h1 := am_if h1
    obtain ⟨rfl, h1⟩ := h1
    unfold am_li at h1
    split at h1
    · rename_i hq
      exact lv_iload_n hx hb hd rfl (am_lat hl hq) (kk _ _ h1 ls hl)
    · cases h1
  · replace h1 := am_if h1
    obtain ⟨rfl, h1⟩ := h1
    unfold am_la at h1
    split at h1
    · rename_i hq
      exact lv_aload hx hb hd (am_lat hl hq) (kk _ _ h1 ls hl)
    · rename_i hq
      exact lv_aload hx hb hd (am_lat hl hq) (kk _ _ h1 ls hl)
    · rename_i hq
      exact lv_aload hx hb hd (am_lat hl hq) (kk _ _ h1 ls hl)
    · cases h1
  · replace h1 := am_if h1
    obtain ⟨rfl, h1⟩ := h1
    unfold am_la at h1
    split at h1
    · rename_i hq
      exact lv_aload_n hx hb hd rfl (am_lat hl hq) (kk _ _ h1 ls hl)
    · rename_i hq
      exact lv_aload_n hx hb hd rfl (am_lat hl hq) (kk _ _ h1 ls hl)
    · rename_i hq
      exact lv_aload_n hx hb hd rfl (am_lat hl hq) (kk _ _ h1 ls hl)
    · cases h1
  · replace h1 := am_if h1
    obtain ⟨rfl, h1⟩ := h1
    unfold am_si at h1
    split at h1
    · obtain ⟨hk, h1⟩ := am_if h1
      exact lv_istore hx hb hd hl hk rfl (fun ls' hl' => kk _ _ h1 ls' (by rw [am_svm]; exact hl'))
    · cases h1
  · replace h1 := am_if h1
    obtain ⟨rfl, h1⟩ := h1
    unfold am_si at h1
    split at h1
    · obtain ⟨hk, h1⟩ := am_if h1
      exact lv_istore_n hx hb hd rfl hl hk rfl (fun ls' hl' => kk _ _ h1 ls' (by rw [am_svm]; exact hl'))
    · cases h1
  · replace h1 := am_if h1
    obtain ⟨rfl, h1⟩ := h1
    unfold am_sa at h1
    split at h1
    · obtain ⟨hk, h1⟩ := am_if h1
      exact lv_astore hx hb hd hl hk rfl (fun ls' hl' => kk _ _ h1 ls' (by rw [am_svm]; exact hl'))
    · obtain ⟨hk, h1⟩ := am_if h1
      exact lv_astore hx hb hd hl hk rfl (fun ls' hl' => kk _ _ h1 ls' (by rw [am_svm]; exact hl'))
    · obtain ⟨hk, h1⟩ := am_if h1
      exact lv_astore hx hb hd hl hk rfl (fun ls' hl' => kk _ _ h1 ls' (by rw [am_svm]; exact hl'))
    · cases h1
  · replace h1 := am_if h1
    obtain ⟨rfl, h1⟩ := h1
    unfold am_sa at h1
    split at h1
    · obtain ⟨hk, h1⟩ := am_if h1
      exact lv_astore_n hx hb hd rfl hl hk rfl (fun ls' hl' => kk _ _ h1 ls' (by rw [am_svm]; exact hl'))
    · obtain ⟨hk, h1⟩ := am_if h1
      exact lv_astore_n hx hb hd rfl hl hk rfl (fun ls' hl' => kk _ _ h1 ls' (by rw [am_svm]; exact hl'))
    · obtain ⟨hk, h1⟩ := am_if h1
      exact lv_astore_n hx hb hd rfl hl hk rfl (fun ls' hl' => kk _ _ h1 ls' (by rw [am_svm]; exact hl'))
    · cases h1
  · replace h1 := am_if h1
    obtain ⟨rfl, h1⟩ := h1
    unfold am_ic at h1
    split at h1
    · rename_i hq
      obtain ⟨hk, h1⟩ := am_if h1
      obtain ⟨k9, hk9⟩ := List.getElem?_of_mem (List.mem_map.mpr ⟨_, am_lk hq, rfl⟩ : _ ∈ lv.map fun q => (q.1, am_t ad q.2))
      exact lv_iinc hx hb hd hl hk9 rfl hk rfl (fun ls' hl' => kk _ _ h1 ls' (by rw [am_svm]; exact hl'))
    · cases h1
  · replace h1 := am_if h1
    obtain ⟨rfl, h1⟩ := h1
    unfold am_2 at h1
    split at h1
    · exact lv_iadd hx hb hd (kk _ _ h1 ls hl)
    · cases h1
  · replace h1 := am_if h1
    obtain ⟨rfl, h1⟩ := h1
    unfold am_2 at h1
    split at h1
    · exact lv_isub hx hb hd (kk _ _ h1 ls hl)
    · cases h1
  · replace h1 := am_if h1
    obtain ⟨rfl, h1⟩ := h1
    unfold am_2 at h1
    split at h1
    · exact lv_imul hx hb hd (kk _ _ h1 ls hl)
    · cases h1
  · replace h1 := am_if h1
    obtain ⟨rfl, h1⟩ := h1
    unfold am_2 at h1
    split at h1
    · exact lv_iand hx hb hd (kk _ _ h1 ls hl)
    · cases h1
  · replace h1 := am_if h1
    obtain ⟨rfl, h1⟩ := h1
    unfold am_2 at h1
    split at h1
    · exact lv_ior hx hb hd (kk _ _ h1 ls hl)
    · cases h1
  · replace h1 := am_if h1
    obtain ⟨rfl, h1⟩ := h1
    unfold am_2 at h1
    split at h1
    · exact lv_ixor hx hb hd (kk _ _ h1 ls hl)
    · cases h1
  · replace h1 := am_if h1
    obtain ⟨rfl, h1⟩ := h1
    unfold am_2z at h1
    split at h1
    · obtain ⟨hy, h1⟩ := am_ifn h1
      exact lv_idiv hx hb hd hy (kk _ _ h1 ls hl)
    · cases h1
  · replace h1 := am_if h1
    obtain ⟨rfl, h1⟩ := h1
    unfold am_2z at h1
    split at h1
    · obtain ⟨hy, h1⟩ := am_ifn h1
      exact lv_irem hx hb hd hy (kk _ _ h1 ls hl)
    · cases h1
  · replace h1 := am_if h1
    obtain ⟨rfl, h1⟩ := h1
    unfold am_du at h1
    split at h1
    · obtain ⟨hv, h1⟩ := am_if h1
      exact lv_dup hx hb hd (by rw [am_t_cat]; exact hv) (kk _ _ h1 ls hl)
    · cases h1
  · replace h1 := am_if h1
    obtain ⟨rfl, h1⟩ := h1
    unfold am_d2 at h1
    split at h1
    · obtain ⟨hv, h1⟩ := am_if h1
      obtain ⟨hw, h1⟩ := am_if h1
      exact lv_dup2_11 hx hb hd (by rw [am_t_cat]; exact hv) (by rw [am_t_cat]; exact hw) (kk _ _ h1 ls hl)
    · cases h1
  · replace h1 := am_if h1
    obtain ⟨rfl, h1⟩ := h1
    unfold am_dx at h1
    split at h1
    · obtain ⟨hv, h1⟩ := am_if h1
      obtain ⟨hw, h1⟩ := am_if h1
      exact lv_dup_x1 hx hb hd (by rw [am_t_cat]; exact hv) (by rw [am_t_cat]; exact hw) (kk _ _ h1 ls hl)
    · cases h1
  · replace h1 := am_if h1
    obtain ⟨rfl, h1⟩ := h1
    unfold am_po at h1
    split at h1
    · obtain ⟨hv, h1⟩ := am_if h1
      exact lv_pop hx hb hd (by rw [am_t_cat]; exact hv) (kk _ _ h1 ls hl)
    · cases h1
  · replace h1 := am_if h1
    obtain ⟨rfl, h1⟩ := h1
    unfold am_il at h1
    split at h1
    · exact lv_i2l hx hb hd rfl (kk _ _ h1 ls hl)
    · cases h1
  · replace h1 := am_if h1
    obtain ⟨rfl, h1⟩ := h1
    unfold am_lc at h1
    split at h1
    · exact W.lcmp hx hb hd (kk _ _ h1 ls hl)
    · cases h1
  · cases h1
theorem am_s2_ok (G : am_G p m c cc nL s args Ts own D cl tc A rs ad0) {i : Instr} {n pc : Nat} {lv : am_Lv} {st : List am_V} {h : am_H} {b : Nat × Nat} {K : am_K2} {out : am_O} (hd : decode cc pc = .ok (i, n)) (h1 : am_s2 rs i n st h K = some out) (kk : ∀ st' h', K st' h' = some out → am_W p l e R s m args below meth c Q D cl tc A nL n0 ad0 (pc + n) lv st' h' b) : am_W p l e R s m args below meth c Q D cl tc A nL n0 ad0 pc lv st h b := by
  obtain ⟨⟨hx, hb, hml, hown, hts⟩, hK, hA, hro⟩ := G
  intro ad H locs cells slots ls J hl hc hs
  have kk0 : ∀ st' h', K st' h' = some out → ∀ (H1 : Heap) (locs1 : List Loc), am_J D cl tc A s n0 ad0 ad h' H1 locs1 → W p l e R s m args below meth c H1 locs1 cells slots Q (F0 m (pc + n) ls (st'.map (am_t ad))) := fun st' h' q H1 locs1 J1 => kk st' h' q ad H1 locs1 cells slots ls J1 hl hc hs
  clear kk
  have hJ := J
  obtain ⟨j1, j2, j3, hP, hD, hS⟩ := J
  unfold am_s2 at h1
  split at h1
  · replace h1 := am_if h1
    obtain ⟨rfl, h1⟩ := h1
    unfold am_ld at h1
    split at h1
    · split at h1
      · rename_i hk
        replace h1 := am_if h1
        obtain ⟨rfl, h1⟩ := h1
        obtain ⟨hi, h1⟩ := am_bif h1
        obtain ⟨q0, hq⟩ := am_rd hJ hk 0 rfl
        exact va_iald hx hb hK hP q0 0 hq rfl (am_invp hi) hd (kk0 _ _ h1 H locs hJ)
      · cases h1
    · split at h1
      · rename_i hk
        obtain ⟨-, h1⟩ := am_if h1
        obtain ⟨hi, h1⟩ := am_bif h1
        simp only [Bool.and_eq_true, decide_eq_true_eq] at hi
        obtain ⟨q0, hq⟩ := am_rdR hJ hk hi.1
        exact va_iald hx hb hK hP q0 0 hq rfl (am_invp hi.2) hd (kk0 _ _ h1 H locs hJ)
      · cases h1
    · split at h1
      · rename_i hk
        obtain ⟨-, h1⟩ := am_if h1
        obtain ⟨hi, h1⟩ := am_bif h1
        have hT := hro _ _ _ hk
        rw [← j3] at hT
        exact va_ti hx hb hT hS (am_invp hi) rfl hd (kk0 _ _ h1 H locs hJ)
      · cases h1
    · cases h1
  · replace h1 := am_if h1
    obtain ⟨rfl, h1⟩ := h1
    unfold am_ld at h1
    split at h1
    · split at h1
      · rename_i hk
        replace h1 := am_if h1
        obtain ⟨rfl, h1⟩ := h1
        obtain ⟨hi, h1⟩ := am_bif h1
        obtain ⟨q0, hq⟩ := am_rd hJ hk 0 rfl
        exact va_zald hx hb hK hP q0 1 hq rfl (am_invp hi) hd (kk0 _ _ h1 H locs hJ)
      · cases h1
    · split at h1
      · obtain ⟨hz, -⟩ := am_if h1
        cases hz
      · cases h1
    · split at h1
      · obtain ⟨hz, -⟩ := am_if h1
        cases hz
      · cases h1
    · cases h1
  · replace h1 := am_if h1
    obtain ⟨rfl, h1⟩ := h1
    unfold am_sr at h1
    split at h1
    · split at h1
      · rename_i hk
        replace h1 := am_if h1
        obtain ⟨rfl, h1⟩ := h1
        obtain ⟨hi, h1⟩ := am_bif h1
        obtain ⟨q0, g1, g2⟩ := am_wrA hJ hk _
        exact va_iast hx hb hK hP hD hS q0 0 g1 rfl (am_invp hi) hd (fun H1 locs1 hP1 hD1 hS1 => kk0 _ _ h1 H1 locs1 (g2 H1 locs1 hP1 hD1 hS1))
      · cases h1
    · split at h1
      · rename_i hk
        obtain ⟨-, h1⟩ := am_if h1
        obtain ⟨hi, h1⟩ := am_bif h1
        simp only [Bool.and_eq_true, decide_eq_true_eq] at hi
        obtain ⟨q0, g1, g2⟩ := am_wrR hJ hk hi.1 _
        exact va_iast hx hb hK hP hD hS q0 0 g1 rfl (am_invp hi.2) hd (fun H1 locs1 hP1 hD1 hS1 => kk0 _ _ h1 H1 locs1 (g2 H1 locs1 hP1 hD1 hS1))
      · cases h1
    · cases h1
  · replace h1 := am_if h1
    obtain ⟨rfl, h1⟩ := h1
    unfold am_sr at h1
    split at h1
    · split at h1
      · rename_i hk
        replace h1 := am_if h1
        obtain ⟨rfl, h1⟩ := h1
        obtain ⟨hi, h1⟩ := am_bif h1
        obtain ⟨q0, g1, g2⟩ := am_wrA hJ hk _
        exact va_zast hx hb hK hP hD hS q0 1 g1 rfl (am_invp hi) hd (fun H1 locs1 hP1 hD1 hS1 => kk0 _ _ h1 H1 locs1 (g2 H1 locs1 hP1 hD1 hS1))
      · cases h1
    · split at h1
      · obtain ⟨hz, -⟩ := am_if h1
        cases hz
      · cases h1
    · cases h1
  · replace h1 := am_if h1
    obtain ⟨rfl, h1⟩ := h1
    unfold am_al at h1
    split at h1
    · split at h1
      · rename_i hk
        obtain ⟨ht, h1⟩ := am_if h1
        obtain ⟨q0, hq⟩ := am_rd hJ hk 0 rfl
        have ht2 := Nat.le_of_lt_succ ht
        rcases Nat.le_one_iff_eq_zero_or_eq_one.mp ht2 with rfl | rfl
        · exact va_alen hx hb hK hP q0 0 hq rfl rfl hd (kk0 _ _ h1 H locs hJ)
        · exact va_alen hx hb hK hP q0 1 hq rfl rfl hd (kk0 _ _ h1 H locs hJ)
      · rename_i hk
        obtain ⟨q0, hq⟩ := am_rd hJ hk 0 rfl
        exact va_alen hx hb hK hP q0 2 hq rfl rfl hd (kk0 _ _ h1 H locs hJ)
      · cases h1
    · split at h1
      · rename_i hk
        obtain ⟨hi, h1⟩ := am_bif h1
        simp only [decide_eq_true_eq] at hi
        obtain ⟨q0, hq⟩ := am_rdR hJ hk hi
        exact va_alen hx hb hK hP q0 0 hq rfl rfl hd (kk0 _ _ h1 H locs hJ)
      · cases h1
    · split at h1
      · rename_i hk
        have hT := hro _ _ _ hk
        rw [← j3] at hT
        exact va_tlen hx hb hT hS rfl hd (kk0 _ _ h1 H locs hJ)
      · cases h1
    · cases h1
  · replace h1 := am_if h1
    obtain ⟨rfl, h1⟩ := h1
    unfold am_aa at h1
    split at h1
    · split at h1
      · rename_i hk
        obtain ⟨hi, h1⟩ := am_bif h1
        obtain ⟨q0, hq⟩ := am_rd hJ hk 0 rfl
        have hlt : _ < _ := Nat.not_le.mp fun q => (am_invp hi) (Or.inr q)
        refine am_aald hx hb hK hP q0 2 hq rfl (am_invp hi) hd ?_
        rw [if_pos hlt]
        exact kk0 _ _ h1 H locs hJ
      · cases h1
    · cases h1
  · replace h1 := am_if h1
    obtain ⟨rfl, h1⟩ := h1
    unfold am_ll at h1
    split at h1
    · split at h1
      · rename_i hk
        obtain ⟨hi, h1⟩ := am_bif h1
        obtain ⟨q0, hq⟩ := am_rd hJ hk 0 rfl
        exact va_lald hx hb hK hP q0 3 hq rfl (am_invp hi) hd (kk0 _ _ h1 H locs hJ)
      · cases h1
    · cases h1
  · replace h1 := am_if h1
    obtain ⟨rfl, h1⟩ := h1
    unfold am_sl at h1
    split at h1
    · split at h1
      · rename_i hk
        obtain ⟨hi, h1⟩ := am_bif h1
        obtain ⟨q0, g1, g2⟩ := am_wrL hJ hk _
        exact va_last hx hb hK hP hD hS q0 3 g1 rfl (am_invp hi) hd (fun H1 locs1 hP1 hD1 hS1 => kk0 _ _ h1 H1 locs1 (g2 H1 locs1 hP1 hD1 hS1))
      · cases h1
    · cases h1
  · cases h1
end AMS
end
section
/-! jumps, ends, and the run as a whole -/
def am_chk (cc : ByteArray) : am_I → Bool
  | [] => true
  | x :: r => decide (decode cc x.1 = .ok x.2) && ((match r with
    | [] => true
    | y :: _ => y.1 == x.1 + x.2.2) && am_chk cc r)
theorem am_chk_hd {cc : ByteArray} {pc n : Nat} {i : Instr} {r : am_I} (h : am_chk cc ((pc, i, n) :: r) = true) : decode cc pc = .ok (i, n) := by
  simp only [am_chk, Bool.and_eq_true, decide_eq_true_eq] at h
  exact h.1
theorem am_chk_tl {cc : ByteArray} {x : Nat × Instr × Nat} {r : am_I} (h : am_chk cc (x :: r) = true) : am_chk cc r = true := by
  simp only [am_chk, Bool.and_eq_true] at h
  exact h.2.2
theorem am_chk_nx {cc : ByteArray} {x y : Nat × Instr × Nat} {r : am_I} (h : am_chk cc (x :: y :: r) = true) : y.1 = x.1 + x.2.2 := by
  simp only [am_chk, Bool.and_eq_true, beq_iff_eq] at h
  exact h.2.1
theorem am_chk_from {cc : ByteArray} (t : Nat) : ∀ {is : am_I}, am_chk cc is = true → am_chk cc (am_from t is) = true
  | [], h => h
  | x :: r, h => by
    unfold am_from
    rw [List.dropWhile_cons]
    split
    · exact am_chk_from t (am_chk_tl h)
    · exact h
theorem am_from_hd (t : Nat) : ∀ {is : am_I} {x : Nat × Instr × Nat} {r : am_I}, am_from t is = x :: r → x.1 = t
  | [], x, r, h => by cases h
  | y :: is, x, r, h => by
    unfold am_from at h
    rw [List.dropWhile_cons] at h
    split at h
    · exact am_from_hd t h
    · rename_i hy
      cases h
      simpa using hy
theorem am_tg_ok {pc : Nat} {off : Int} {K : Nat → Option am_O} {out : am_O} (h : am_tg pc off K = some out) : ∃ t : Nat, (pc : Int) + off = (t : Int) ∧ K t = some out := by
  unfold am_tg at h
  split at h
  · rename_i t ht
    exact ⟨t, ht, h⟩
  · cases h
theorem am_tsl_ok {x : Int32} {K : Int → Option am_O} {d : Int} {out : am_O} : ∀ {os : List Int} {v : Int}, am_tsl x K d v os = some out → (∃ (j : Nat) (o : Int), os[j]? = some o ∧ x.toInt = v + j ∧ K o = some out) ∨ ((∀ j : Nat, j < os.length → x.toInt ≠ v + j) ∧ K d = some out)
  | [], v, h => Or.inr ⟨fun j hj => absurd hj (Nat.not_lt_zero j), h⟩
  | o :: os, v, h => by
    unfold am_tsl at h
    by_cases hx : x.toInt = v
    · rw [decide_eq_true hx, cond_true] at h
      exact Or.inl ⟨0, o, rfl, by simp [hx], h⟩
    · rw [decide_eq_false hx, cond_false] at h
      rcases am_tsl_ok h with ⟨j, o', h1, h2, h3⟩ | ⟨h1, h2⟩
      · exact Or.inl ⟨j + 1, o', by simpa using h1, by rw [h2]; push_cast; omega, h3⟩
      · refine Or.inr ⟨fun j hj => ?_, h2⟩
        cases j with
        | zero => simpa using hx
        | succ j =>
          have := h1 j (by simpa using hj)
          intro q
          apply this
          rw [q]; push_cast; omega
theorem am_lsl_ok {x : Int32} {K : Int → Option am_O} {d : Int} {out : am_O} : ∀ {ps : List (Int × Int)}, am_lsl x K d ps = some out → K (Op.lookupswitch.offset ps d x.toInt) = some out
  | [], h => h
  | (v, o) :: os, h => by
    unfold am_lsl at h
    rw [Op.lookupswitch.offset_cons]
    by_cases hx : v = x.toInt
    · rw [decide_eq_true hx, cond_true] at h
      rw [if_pos hx]
      exact h
    · rw [decide_eq_false hx, cond_false] at h
      rw [if_neg hx]
      exact am_lsl_ok h
/-- the exceptions' classes by number -/
def am_xn (x : Nat) : String := match x with
  | 0 => "java/lang/IllegalArgumentException"
  | 1 => "java/util/NoSuchElementException"
  | 2 => "java/lang/UnsupportedOperationException"
  | 3 => "java/lang/IllegalStateException"
  | _ => "java/lang/IndexOutOfBoundsException"
theorem am_x4_lt (x : Nat) : am_x4 x < 5 := by
  unfold am_x4
  split <;> omega
theorem am_xn_x4 (x : Nat) : am_xn (am_x4 x) = am_xn x := by
  unfold am_x4
  split
  · rfl
  · rename_i h
    match x, h with
    | 0, h => exact absurd (by decide) h
    | 1, h => exact absurd (by decide) h
    | 2, h => exact absurd (by decide) h
    | 3, h => exact absurd (by decide) h
    | x + 4, _ => rfl
/-- what holds behind a method -/
def am_E (D : va_G) (cl : List vw_C) (tc : Nat → ClassId) (A : Nat → Prop) (n0 : Nat) (ad0 ad : am_A) (h : am_H) (t : State) : Prop := n0 ≤ h.length ∧ (∀ k, k < n0 → ad.1 k = ad0.1 k) ∧ ad.2 = ad0.2 ∧ va_P D cl (am_ws tc ad 0 h) t.heap ∧ va_D A (am_ws tc ad 0 h)
def am_Qc (D : va_G) (cl : List vw_C) (tc : Nat → ClassId) (A : Nat → Prop) (n0 : Nat) (ad0 : am_A) (out : am_O) : Array Value → State → Outcome → State → Prop := fun _ st o t => (∃ (v : Option am_V) (h : am_H) (ad : am_A), out = (.inl v, h) ∧ o = .returned (v.map (am_t ad)) ∧ am_E D cl tc A n0 ad0 ad h t) ∧ va_F A st t
def am_XC (D : va_G) (cl : List vw_C) (tc : Nat → ClassId) (A : Nat → Prop) (n0 : Nat) (ad0 : am_A) (out : am_O) : String → State → State → Prop := fun E st t => (∃ (x : Nat) (h : am_H) (ad : am_A), E = am_xn x ∧ out = (.inr x, h) ∧ am_E D cl tc A n0 ad0 ad h t) ∧ va_F A st t
def am_Q (below : List Frame) (args : Array Value) (s : State) (R : Room) (D : va_G) (cl : List vw_C) (tc : Nat → ClassId) (A : Nat → Prop) (n0 : Nat) (ad0 : am_A) (out : am_O) : State → Prop := vx_MQ below (am_Qc D cl tc A n0 ad0 out) (am_XC D cl tc A n0 ad0 out) args s R.cells R.slots A
section AMG
variable {p : Program} {l : Launch} {e : Env} {R : Room} {s : State} {m : MethodId} {args : Array Value} {below : List Frame} {meth : Method} {c : Code} {Q : State → Prop} {D : va_G} {cl : List vw_C} {tc : Nat → ClassId} {A : Nat → Prop} {nL n0 : Nat} {ad0 : am_A} {cc : ByteArray} {own : String} {Ts : List Cond} {rs : Nat → Option (Nat × (Nat → Int32))}
theorem am_br_ok (G : am_G p m c cc nL s args Ts own D cl tc A rs ad0) {i : Instr} {n pc : Nat} {lv : am_Lv} {st : List am_V} {h : am_H} {b : Nat × Nat} {K : List am_V → Nat → Option am_O} {N : List am_V → Option am_O} {out : am_O} (hd : decode cc pc = .ok (i, n)) (h1 : am_br pc i n st K N = some out) (kj : ∀ st' t, K st' t = some out → am_W p l e R s m args below meth c Q D cl tc A nL n0 ad0 t lv st' h b) (kn : ∀ st', N st' = some out → am_W p l e R s m args below meth c Q D cl tc A nL n0 ad0 (pc + n) lv st' h b) : am_W p l e R s m args below meth c Q D cl tc A nL n0 ad0 pc lv st h b := by
  obtain ⟨⟨hx, hb, hml, hown, hts⟩, hK, hA, hro⟩ := G
  intro ad H locs cells slots ls J hl hc hs
  have kj : ∀ st' t, K st' t = some out → W p l e R s m args below meth c H locs cells slots Q (F0 m t ls (st'.map (am_t ad))) := fun st' t q => kj st' t q ad H locs cells slots ls J hl hc hs
  have kn : ∀ st', N st' = some out → W p l e R s m args below meth c H locs cells slots Q (F0 m (pc + n) ls (st'.map (am_t ad))) := fun st' q => kn st' q ad H locs cells slots ls J hl hc hs
  unfold am_br at h1
  split at h1
  · replace h1 := am_if h1
    obtain ⟨rfl, h1⟩ := h1
    obtain ⟨t, ht, h1⟩ := am_tg_ok h1
    exact lv_goto hx hb hd ht (kj _ _ h1)
  · rename_i k off
    replace h1 := am_if h1
    obtain ⟨rfl, h1⟩ := h1
    split at h1
    · obtain ⟨t, ht, h1⟩ := am_tg_ok h1
      cases k with
      | eq => exact lv_icmp_eq hx hb hd ht (fun q => kj _ _ (by simpa [am_cmp, q] using h1)) (fun q => kn _ (by simpa [am_cmp, q] using h1))
      | ne => exact lv_icmp_ne hx hb hd ht (fun q => kj _ _ (by simpa [am_cmp, q] using h1)) (fun q => kn _ (by simpa [am_cmp, q] using h1))
      | lt => exact lv_icmp_lt hx hb hd ht (fun q => kj _ _ (by simpa [am_cmp, q] using h1)) (fun q => kn _ (by simpa [am_cmp, q] using h1))
      | ge => exact lv_icmp_ge hx hb hd ht (fun q => kj _ _ (by simpa [am_cmp, q] using h1)) (fun q => kn _ (by simpa [am_cmp, q] using h1))
      | gt => exact lv_icmp_gt hx hb hd ht (fun q => kj _ _ (by simpa [am_cmp, q] using h1)) (fun q => kn _ (by simpa [am_cmp, q] using h1))
      | le => exact lv_icmp_le hx hb hd ht (fun q => kj _ _ (by simpa [am_cmp, q] using h1)) (fun q => kn _ (by simpa [am_cmp, q] using h1))
    · cases h1
  · rename_i k off
    replace h1 := am_if h1
    obtain ⟨rfl, h1⟩ := h1
    split at h1
    · obtain ⟨t, ht, h1⟩ := am_tg_ok h1
      cases k with
      | eq => exact lv_if_eq hx hb hd ht (fun q => kj _ _ (by simpa [am_cmp, q] using h1)) (fun q => kn _ (by simpa [am_cmp, q] using h1))
      | ne => exact lv_if_ne hx hb hd ht (fun q => kj _ _ (by simpa [am_cmp, q] using h1)) (fun q => kn _ (by simpa [am_cmp, q] using h1))
      | lt => exact lv_if_lt hx hb hd ht (fun q => kj _ _ (by simpa [am_cmp, q] using h1)) (fun q => kn _ (by simpa [am_cmp, q] using h1))
      | ge => exact lv_if_ge hx hb hd ht (fun q => kj _ _ (by simpa [am_cmp, q] using h1)) (fun q => kn _ (by simpa [am_cmp, q] using h1))
      | gt => exact lv_if_gt hx hb hd ht (fun q => kj _ _ (by simpa [am_cmp, q] using h1)) (fun q => kn _ (by simpa [am_cmp, q] using h1))
      | le => exact lv_if_le hx hb hd ht (fun q => kj _ _ (by simpa [am_cmp, q] using h1)) (fun q => kn _ (by simpa [am_cmp, q] using h1))
    · cases h1
  · rename_i d lo hi offs
    split at h1
    · rename_i x r
      obtain ⟨hhi, h1⟩ := am_if h1
      rcases am_tsl_ok h1 with ⟨j, o, h2, h3, h4⟩ | ⟨h2, h3⟩
      · obtain ⟨t, ht, h4⟩ := am_tg_ok h4
        have hj := (List.getElem?_eq_some_iff.mp h2).1
        have hj2 : (x.toInt - lo).toNat = j := by omega
        exact lv_tableIn hx hb hd (by omega) (by omega) (by rw [hj2, ← Array.getElem?_toList]; exact h2) ht (kj _ _ h4)
      · obtain ⟨t, ht, h3⟩ := am_tg_ok h3
        refine lv_tableOut hx hb hd ?_ ht (kj _ _ h3)
        by_cases q1 : x.toInt < lo
        · exact Or.inl q1
        · refine Or.inr ?_
          have := h2 (x.toInt - lo).toNat
          by_cases q2 : hi < x.toInt
          · exact q2
          · exact absurd (show x.toInt = lo + ((x.toInt - lo).toNat : Int) by omega) (this (by omega))
    · cases h1
  · rename_i d ps
    split at h1
    · obtain ⟨hp, h1⟩ := am_if h1
      obtain ⟨t, ht, h1⟩ := am_tg_ok (am_lsl_ok h1)
      exact lv_lookup hx hb hd hp rfl ht (kj _ _ h1)
    · cases h1
  · cases h1
theorem am_re_ok (G : am_G p m c cc nL s args Ts own D cl tc A rs ad0) {rt : Option FieldType} (hrt : meth.sig.returnType = rt) (hlocks : meth.locks = false) {i : Instr} {n pc : Nat} {lv : am_Lv} {st : List am_V} {h : am_H} {b : Nat × Nat} {out : am_O} (hd : decode cc pc = .ok (i, n)) (h1 : am_re rt i n st h = some out) : am_W p l e R s m args below meth c (am_Q below args s R D cl tc A n0 ad0 out) D cl tc A nL n0 ad0 pc lv st h b := by
  obtain ⟨⟨hx, hb, hml, hown, hts⟩, hK, hA, hro⟩ := G
  intro ad H locs cells slots ls J hl hc hs
  obtain ⟨j1, j2, j3, hP, hD, hS⟩ := J
  unfold am_re at h1
  split at h1
  · replace h1 := am_if h1
    obtain ⟨rfl, h1⟩ := h1
    split at h1
    · rename_i x
      obtain ⟨hz, h1⟩ := am_bif h1
      cases h1
      refine vx_ret (W.widen (k := R.cells) (n := R.slots) (by omega) (by omega) ?_)
      have fin : ∀ ty, meth.sig.returnType = some ty → narrow ty (.int x) = .int x → W p l e R s m args below meth c H locs R.cells R.slots (MQ below (am_Qc D cl tc A n0 ad0 (.inl (some (.inl (.int x))), h)) args s R.cells R.slots A) (F0 m pc ls [.int x]) := fun ty hty hn =>
        W.zret hx hb hty hn (fun t ht _ => ⟨⟨some (.inl (.int x)), h, ad, rfl, rfl, j1, j2, j3, by rw [ht]; exact hP, hD⟩, hS.F ht⟩) hS.2.2 hd hlocks
      unfold am_rt at hz
      split at hz
      · exact fin .int hrt rfl
      · refine fin .boolean hrt ?_
        simp only [Bool.or_eq_true, decide_eq_true_eq] at hz
        rcases hz with rfl | rfl
        · decide +kernel
        · decide +kernel
      · cases hz
    · cases h1
  · replace h1 := am_if h1
    obtain ⟨rfl, h1⟩ := h1
    split at h1
    · replace h1 := am_if h1
      obtain ⟨rfl, h1⟩ := h1
      cases h1
      refine vx_ret (W.widen (k := R.cells) (n := R.slots) (by omega) (by omega) ?_)
      exact W.vret hx hb hrt (fun t ht _ => ⟨⟨none, h, ad, rfl, rfl, j1, j2, j3, by rw [ht]; exact hP, hD⟩, hS.F ht⟩) hS.2.2 hd hlocks
    · cases h1
  · cases h1
/-- the judgement with an exception, of the number x, thrown over the frame -/
def am_WX (p : Program) (l : Launch) (e : Env) (R : Room) (s : State) (m : MethodId) (args : Array Value) (below : List Frame) (meth : Method) (c : Code) (Q : State → Prop) (D : va_G) (cl : List vw_C) (tc : Nat → ClassId) (A : Nat → Prop) (nL n0 : Nat) (ad0 : am_A) (pc : Nat) (lv : am_Lv) (x : Nat) (h : am_H) (b : Nat × Nat) : Prop :=
  ∀ (ad : am_A) (H : Heap) (locs : List Loc) (cells slots : Nat) (ls : Array Slot) (rst : List Value) (q : Addr) (ce : Cell), am_J D cl tc A s n0 ad0 ad h H locs → lv_has ls nL (lv.map fun q => (q.1, am_t ad q.2)) → cells + b.1 ≤ R.cells → slots + b.2 ≤ R.slots → H[q]? = some ce → ce.vm = .none → s.vm.findClass (am_xn x) = some ce.cls → vx_W p l e R s m args below meth c H locs cells slots Q (F0 m pc ls rst) q
/-- an entry of the pool: what it does here is what the run says -/
def am_op (p : Program) (l : Launch) (e : Env) (R : Room) (s : State) (m : MethodId) (args : Array Value) (below : List Frame) (meth : Method) (c : Code) (D : va_G) (cl : List vw_C) (tc : Nat → ClassId) (A : Nat → Prop) (nL n0 : Nat) (ad0 : am_A) (cc : ByteArray) (key : Nat × Nat) (φ : am_F) : Prop :=
  ∀ (out : am_O) (pc n : Nat) (i : Instr) (is : am_I) (lv : am_Lv) (st : List am_V) (h : am_H) (b : Nat × Nat) (K : am_K3) (KX : am_KX), am_key i = key → am_chk cc ((pc, i, n) :: is) = true → φ ((pc, i, n) :: is) lv st h b K KX = some out →
    (∀ st' h' b', K st' h' b' = some out → am_W p l e R s m args below meth c (am_Q below args s R D cl tc A n0 ad0 out) D cl tc A nL n0 ad0 (pc + n) lv st' h' b') →
    (∀ x h' b', KX x h' b' = some out → am_WX p l e R s m args below meth c (am_Q below args s R D cl tc A n0 ad0 out) D cl tc A nL n0 ad0 pc lv x h' b') → am_W p l e R s m args below meth c (am_Q below args s R D cl tc A n0 ad0 out) D cl tc A nL n0 ad0 pc lv st h b
/-- the table of a method's handlers -/
def am_tb (hs : am_Hs) : List (Nat × Nat × Nat × Nat) := hs.map (fun q => (q.1, q.2.1, q.2.2.1, q.2.2.2.1))
/-- what the tables say of the handlers' classes -/
def am_hk (s : State) (args : Array Value) (own : String) (hs : am_Hs) : Prop := ∀ q ∈ hs, q.2.2.2.1 ≠ 0 ∧ (Cond.classLink own q.2.2.2.1 (am_xn q.2.2.2.2)).before args s = true ∧ (Cond.castable (am_xn q.2.2.2.2) (am_xn q.2.2.2.2)).before args s = true ∧ ∀ x, x < 5 → x ≠ q.2.2.2.2 → va_Nc (am_xn x) (am_xn q.2.2.2.2) s
theorem am_fh_none {pc x : Nat} : ∀ {hs : am_Hs}, am_fh hs pc x = none → ∀ q ∈ hs, (¬ q.1 ≤ pc ∨ ¬ pc < q.2.1) ∨ am_x4 x ≠ q.2.2.2.2
  | [], _ => fun q hq => by cases hq
  | (a, z, t, k, y) :: r, h => by
    unfold am_fh at h
    intro q hq
    by_cases h1 : a ≤ pc
    · rw [if_pos h1] at h
      by_cases h2 : pc < z
      · rw [if_pos h2] at h
        by_cases h3 : am_x4 x = y
        · rw [if_pos h3] at h; cases h
        · rw [if_neg h3] at h
          rcases List.mem_cons.mp hq with rfl | hq
          · exact Or.inr h3
          · exact am_fh_none h q hq
      · rw [if_neg h2] at h
        rcases List.mem_cons.mp hq with rfl | hq
        · exact Or.inl (Or.inr h2)
        · exact am_fh_none h q hq
    · rw [if_neg h1] at h
      rcases List.mem_cons.mp hq with rfl | hq
      · exact Or.inl (Or.inl h1)
      · exact am_fh_none h q hq
theorem am_fh_some {pc x t : Nat} : ∀ {hs : am_Hs}, am_fh hs pc x = some t → ∃ pre q suf, hs = pre ++ q :: suf ∧ (∀ z ∈ pre, (¬ z.1 ≤ pc ∨ ¬ pc < z.2.1) ∨ am_x4 x ≠ z.2.2.2.2) ∧ q.1 ≤ pc ∧ pc < q.2.1 ∧ q.2.2.1 = t ∧ q.2.2.2.2 = am_x4 x
  | [], h => by cases h
  | (a, z, t', k, y) :: r, h => by
    unfold am_fh at h
    have rc0 : am_fh r pc x = some t → ((¬ a ≤ pc ∨ ¬ pc < z) ∨ am_x4 x ≠ y) → ∃ pre q suf, (a, z, t', k, y) :: r = pre ++ q :: suf ∧ (∀ z ∈ pre, (¬ z.1 ≤ pc ∨ ¬ pc < z.2.1) ∨ am_x4 x ≠ z.2.2.2.2) ∧ q.1 ≤ pc ∧ pc < q.2.1 ∧ q.2.2.1 = t ∧ q.2.2.2.2 = am_x4 x := by
      intro h9 hp
      obtain ⟨pre, q, suf, e1, e2, e3⟩ := am_fh_some h9
      refine ⟨(a, z, t', k, y) :: pre, q, suf, by rw [e1]; rfl, ?_, e3⟩
      intro w hw
      rcases List.mem_cons.mp hw with rfl | hw
      · exact hp
      · exact e2 w hw
    by_cases h1 : a ≤ pc
    · rw [if_pos h1] at h
      by_cases h2 : pc < z
      · rw [if_pos h2] at h
        by_cases h3 : am_x4 x = y
        · rw [if_pos h3] at h
          cases h
          exact ⟨[], _, r, rfl, (fun w hw => by cases hw), h1, h2, rfl, h3.symm⟩
        · rw [if_neg h3] at h
          exact rc0 h (Or.inr h3)
      · rw [if_neg h2] at h
        exact rc0 h (Or.inl (Or.inr h2))
    · rw [if_neg h1] at h
      exact rc0 h (Or.inl (Or.inl h1))
theorem am_rmm (ad : am_A) (lv : am_Lv) (i : Nat) : (am_rm lv i).map (fun q => (q.1, am_t ad q.2)) = (lv.map fun q => (q.1, am_t ad q.2)).filter (fun q => !(q.1 == i) && !(q.1 + 1 == i && q.2.category == 2)) := by
  simp only [am_rm, List.filter_map, Function.comp_def, am_t_cat]
theorem am_go_ok (G : am_G p m c cc nL s args Ts own D cl tc A rs ad0) {rt : Option FieldType} (hrt : meth.sig.returnType = rt) (hlocks : meth.locks = false) {hs : am_Hs} (htb : c.exceptionTable.toList = tableOf (am_tb hs)) (hhk : am_hk s args own hs) {X : am_X} (hX : ∀ key φ, X.lookup key = some φ → am_op p l e R s m args below meth c D cl tc A nL n0 ad0 cc key φ) {jmp : am_Kj} {out : am_O} (hj : ∀ t lv st h b, jmp t lv st h b = some out → am_W p l e R s m args below meth c (am_Q below args s R D cl tc A n0 ad0 out) D cl tc A nL n0 ad0 t lv st h b) :
    ∀ (f : Nat) (is : am_I) (lv : am_Lv) (st : List am_V) (h : am_H) (b : Nat × Nat) (pc : Nat), am_chk cc is = true → (∀ x r, is = x :: r → x.1 = pc) → am_go X nL rt rs hs jmp f is lv st h b = some out → am_W p l e R s m args below meth c (am_Q below args s R D cl tc A n0 ad0 out) D cl tc A nL n0 ad0 pc lv st h b := by
  intro f
  induction f with
  | zero => intro is lv st h b pc _ _ h1; simp [am_go] at h1
  | succ f ih =>
    intro is lv st h b pc hch hpc h1
    cases is with
    | nil => simp [am_go] at h1
    | cons x is =>
      obtain ⟨pc0, i, n⟩ := x
      have e0 : pc0 = pc := hpc _ _ rfl
      subst e0
      have hd := am_chk_hd hch
      have nx : ∀ x r, is = x :: r → x.1 = pc0 + n := fun x r hr => by subst hr; exact am_chk_nx hch
      have htl := am_chk_tl hch
      unfold am_go at h1
      split at h1
      · exact am_s1_ok G hd h1 (fun lv' st' q => ih is lv' st' h b _ htl nx q)
      · exact am_s2_ok G hd h1 (fun st' h' q => ih is lv st' h' b _ htl nx q)
      · refine am_br_ok G hd h1 (fun st' t q => ?_) (fun st' q => ih is lv st' h b _ htl nx q)
        split at q
        · exact hj _ _ _ _ _ q
        · exact ih _ _ _ _ _ _ (am_chk_from t htl) (fun x r hr => am_from_hd t hr) q
      · exact am_re_ok G hrt hlocks hd h1
      · split at h1
        · rename_i φ hφ
          refine hX _ _ hφ out pc0 n i is lv st h b _ _ rfl hch h1 (fun st' h' b' q => ih is lv st' h' b' _ htl nx q) (fun x h' b' q => ?_)
          have hN : ∀ z ∈ hs, ((¬ z.1 ≤ pc0 ∨ ¬ pc0 < z.2.1) ∨ am_x4 x ≠ z.2.2.2.2) → covers ⟨z.1, z.2.1, z.2.2.1, z.2.2.2.1⟩ pc0 = false ∨ (z.2.2.2.1 ≠ 0 ∧ ∃ nm : String, (Cond.classLink own z.2.2.2.1 nm).before args s = true ∧ va_Nc (am_xn x) nm s) := by
            intro z hz h9
            obtain ⟨g1, g2, g3, g4⟩ := hhk z hz
            rcases h9 with h9 | h9
            · refine Or.inl ?_
              simp only [covers, Bool.and_eq_false_iff, decide_eq_false_iff_not]
              omega
            · exact Or.inr ⟨g1, _, g2, am_xn_x4 x ▸ g4 (am_x4 x) (am_x4_lt x) h9⟩
          obtain ⟨⟨hx, hb, hml, hown, hts⟩, hK, hA, hro⟩ := G
          intro ad H locs cells slots ls rst qa ce J hl hc hs1 hce hcv hcl
          split at q
          · rename_i hf
            cases q
            obtain ⟨j1, j2, j3, hP, hD, hS⟩ := J
            exact vx_outP (E := am_xn x) hown hlocks (fun z hz => by
              rw [htb] at hz
              obtain ⟨z1, hz1, rfl⟩ := List.mem_map.mp hz
              obtain ⟨z2, hz2, rfl⟩ := List.mem_map.mp hz1
              exact hN z2 hz2 (am_fh_none hf z2 hz2)) hce hcv hcl (fun t ht _ => ⟨⟨x, h', ad, rfl, rfl, j1, j2, j3, by rw [ht]; exact hP, hD⟩, hS.F ht⟩) hS.2.2 (by omega) (by omega)
          · rename_i t hf
            obtain ⟨pre, z, suf, e1, e2, e3, e4, e5, e6⟩ := am_fh_some hf
            have hzin : z ∈ hs := by rw [e1]; exact List.mem_append_right _ List.mem_cons_self
            obtain ⟨g1, g2, g3, g4⟩ := hhk z hzin
            subst e5
            rw [e6, am_xn_x4] at g2 g3
            refine vx_catch (own := own) (name := am_xn x) (E := am_xn x) hown ((pre.map (fun q => (q.1, q.2.1, q.2.2.1, q.2.2.2.1))).map fun q => ⟨q.1, q.2.1, q.2.2.1, q.2.2.2⟩) ⟨z.1, z.2.1, z.2.2.1, z.2.2.2.1⟩ ((suf.map (fun q => (q.1, q.2.1, q.2.2.1, q.2.2.2.1))).map fun q => ⟨q.1, q.2.1, q.2.2.1, q.2.2.2⟩) (by rw [htb, e1]; simp [am_tb, tableOf]) (fun w hw => by
              obtain ⟨z1, hz1, rfl⟩ := List.mem_map.mp hw
              obtain ⟨z2, hz2, rfl⟩ := List.mem_map.mp hz1
              exact hN z2 (by rw [e1]; exact List.mem_append_left _ hz2) (e2 z2 hz2)) (by simp only [covers, Bool.and_eq_true, decide_eq_true_eq]; exact ⟨e3, e4⟩) g1 g2 g3 hce hcv hcl ?_
            have hfr := am_chk_from (cc := cc) z.2.2.1 htl
            have hhd : ∀ x r, am_from z.2.2.1 is = x :: r → x.1 = z.2.2.1 := fun x r hr => am_from_hd _ hr
            split at q
            · rename_i pc9 k n9 is' hq9
              rw [hq9] at hfr hhd
              replace q := am_if q
              obtain ⟨rfl, q⟩ := q
              obtain ⟨hk9, q⟩ := am_if q
              have e9 : pc9 = z.2.2.1 := hhd _ _ rfl
              subst e9
              refine lv_astore hx hb (am_chk_hd hfr) hl hk9 rfl (fun ls' hl' => ?_)
              exact ih is' (am_rm lv k) [] h' b' _ (am_chk_tl hfr) (fun x r hr => by subst hr; exact am_chk_nx hfr) q ad H locs cells slots ls' J (by rw [am_rmm]; exact ⟨hl'.1, hl'.2.1, fun w hw => hl'.2.2 w (List.mem_cons_of_mem _ hw)⟩) hc hs1
            · rename_i pc9 k n9 is' hq9
              rw [hq9] at hfr hhd
              replace q := am_if q
              obtain ⟨rfl, q⟩ := q
              obtain ⟨hk9, q⟩ := am_if q
              have e9 : pc9 = z.2.2.1 := hhd _ _ rfl
              subst e9
              refine lv_astore_n hx hb (am_chk_hd hfr) rfl hl hk9 rfl (fun ls' hl' => ?_)
              exact ih is' (am_rm lv k.val) [] h' b' _ (am_chk_tl hfr) (fun x r hr => by subst hr; exact am_chk_nx hfr) q ad H locs cells slots ls' J (by rw [am_rmm]; exact ⟨hl'.1, hl'.2.1, fun w hw => hl'.2.2 w (List.mem_cons_of_mem _ hw)⟩) hc hs1
            · cases q
        · cases h1
theorem am_lp_ok (G : am_G p m c cc nL s args Ts own D cl tc A rs ad0) {rt : Option FieldType} (hrt : meth.sig.returnType = rt) (hlocks : meth.locks = false) {hs : am_Hs} (htb : c.exceptionTable.toList = tableOf (am_tb hs)) (hhk : am_hk s args own hs) {T : am_I} (hT : am_chk cc T = true) {X : am_X} (hX : ∀ key φ, X.lookup key = some φ → am_op p l e R s m args below meth c D cl tc A nL n0 ad0 cc key φ) {out : am_O} :
    ∀ (N t : Nat) (lv : am_Lv) (st : List am_V) (h : am_H) (b : Nat × Nat), am_lp T X nL rt rs hs N t lv st h b = some out → am_W p l e R s m args below meth c (am_Q below args s R D cl tc A n0 ad0 out) D cl tc A nL n0 ad0 t lv st h b := by
  intro N
  induction N with
  | zero => intro t lv st h b h1; cases h1
  | succ N ih =>
    intro t lv st h b h1
    exact am_go_ok G hrt hlocks htb hhk hX (fun t lv st h b q => ih t lv st h b q) 1000 (am_from t T) lv st h b t (am_chk_from t hT) (fun x r hr => am_from_hd t hr) h1
end AMG
end
section
/-! calls: a callee's contract is the run of its own code -/
def am_clV (h : am_H) : am_V → Bool
  | .inl (.ref k) => (h[k]?).isSome
  | .inr q => (h[q.1]?).isSome
  | _ => true
theorem am_some_lt {h : am_H} {k : Nat} (hs : (h[k]?).isSome = true) : k < h.length := by
  rw [Option.isSome_iff_exists] at hs
  obtain ⟨x, hx⟩ := hs
  exact (List.getElem?_eq_some_iff.mp hx).1
theorem am_cl_t {h : am_H} {ad ad' : am_A} {v : am_V} (hc : am_clV h v = true) (h1 : ∀ k, k < h.length → ad'.1 k = ad.1 k) (h2 : ad'.2 = ad.2) : am_t ad' v = am_t ad v := by
  cases v with
  | inl v =>
    cases v with
    | ref k =>
      show Value.ref (ad'.1 k none) = Value.ref (ad.1 k none)
      rw [h1 k (am_some_lt hc)]
    | retAddr j =>
      show Value.ref (ad'.2 j) = Value.ref (ad.2 j)
      rw [h2]
    | _ => rfl
  | inr q =>
    show Value.ref (ad'.1 q.1 (some q.2)) = Value.ref (ad.1 q.1 (some q.2))
    rw [h1 q.1 (am_some_lt hc)]
theorem am_cl_L {h : am_H} {ad ad' : am_A} {vs : List am_V} (hc : vs.all (am_clV h) = true) (h1 : ∀ k, k < h.length → ad'.1 k = ad.1 k) (h2 : ad'.2 = ad.2) : vs.map (am_t ad') = vs.map (am_t ad) := by
  apply List.map_congr_left
  intro v hv
  exact am_cl_t (List.all_eq_true.mp hc v hv) h1 h2
theorem am_cl_lv {h : am_H} {ad ad' : am_A} {lv : am_Lv} (hc : lv.all (fun q => am_clV h q.2) = true) (h1 : ∀ k, k < h.length → ad'.1 k = ad.1 k) (h2 : ad'.2 = ad.2) : (lv.map fun q => (q.1, am_t ad' q.2)) = lv.map fun q => (q.1, am_t ad q.2) := by
  apply List.map_congr_left
  intro v hv
  rw [am_cl_t (List.all_eq_true.mp hc v hv) h1 h2]
/-- words that go with the tables, though not by 'goodWord' -/
def am_wk (w : Cond) : Bool := match w with
  | .castable _ _ => true
  | .fieldLinkNest _ _ _ _ _ _ => true
  | _ => false
theorem am_cast_moved {a b : String} {u U : State} (hvm : u.vm.Alike U.vm) (h : va_Nw (.castable a b) u) : va_Nw (.castable a b) U := by
  obtain ⟨c3, c4, hc3, hc4, hasg⟩ := Cond.castable_spec h
  have h1 : U.vm.findClass a = some c3 := by rw [hvm.findClass]; exact hc3
  have h2 : U.vm.findClass b = some c4 := by rw [hvm.findClass]; exact hc4
  have h3 : U.vm.assignable c3 c4 = true := by rw [hvm.assignable]; exact hasg
  simp [va_Nw, Cond.before, Cond.holds, Cond.value, h1, h2, h3]
theorem am_wk_warm {w : Cond} (hw : am_wk w = true) {s U : State} (hW : s.WarmedH U.vm) (h : va_Nw w s) : va_Nw w U := by
  unfold am_wk at hw
  split at hw
  · exact am_cast_moved hW.alike h
  · exact va_Nw.warmF hW h
  · cases hw
theorem am_wk_same {w : Cond} (hw : am_wk w = true) {s U : State} (hW : s.vm = U.vm) (h : va_Nw w s) : va_Nw w U := by
  unfold am_wk at hw
  split at hw
  · exact va_Nw.same rfl hW h
  · exact va_Nw.same rfl hW h
  · cases hw
theorem am_wk_tab {w : Cond} (hw : am_wk w = true) : w.onTables = true := by
  unfold am_wk at hw
  split at hw
  · rfl
  · rfl
  · cases hw
abbrev am_Zt : Type := List (String × String × String × Nat) × List Cond
/-- statics: the constant arrays' own fields, and Throwable's two; the exceptions' classes are apart; words that go along -/
def am_zs (zs : am_Zt) (ra : Nat → Nat) (A : Nat → Prop) (U : State) (H : Heap) : Prop := (∀ x y, x < 5 → y < 5 → x ≠ y → va_Nc (am_xn x) (am_xn y) U) ∧ va_AOA .int U ∧ (∀ w ∈ zs.2, am_wk w = true ∧ va_Nw w U) ∧ (∀ q ∈ zs.1, va_Z q.1 q.2.1 q.2.2.1 (.ref (ra q.2.2.2)) A U H) ∧ vx_Zq Bundle.tN "UNASSIGNED_STACK" Bundle.steD A U H ∧ vx_Zq Bundle.tN "SUPPRESSED_SENTINEL" Bundle.listD A U H
theorem am_zs.go {zs : am_Zt} {ra : Nat → Nat} {A B : Nat → Prop} {u U : State} {H H1 : Heap} (h : am_zs zs ra A u H) (hW : u.WarmedH U.vm) (hq : ∀ a : Nat, a < H.size → ¬ A a → H1[a]? = H[a]?) (hAB : ∀ q, B q → A q) : am_zs zs ra B U H1 :=
  have hvm := hW.alike
  ⟨fun x y h1 h2 h3 => (h.1 x y h1 h2 h3).moved hvm, over_moved (a := #[]) (a' := #[]) hvm h.2.1, fun w hw => ⟨(h.2.2.1 w hw).1, am_wk_warm (h.2.2.1 w hw).1 hW (h.2.2.1 w hw).2⟩, fun q hq1 => (((h.2.2.2.1 q hq1).moved hvm).kept hq).narrow hAB, ((h.2.2.2.2.1.moved hvm).kept hq).narrow hAB, ((h.2.2.2.2.2.moved hvm).kept hq).narrow hAB⟩
theorem am_zs.same {zs : am_Zt} {ra : Nat → Nat} {A : Nat → Prop} {u U : State} {H : Heap} (h : am_zs zs ra A u H) (hvm0 : u.vm = U.vm) (hvm : u.vm.Alike U.vm) : am_zs zs ra A U H :=
  ⟨fun x y h1 h2 h3 => (h.1 x y h1 h2 h3).moved hvm, over_moved (a := #[]) (a' := #[]) hvm h.2.1, fun w hw => ⟨(h.2.2.1 w hw).1, am_wk_same (h.2.2.1 w hw).1 hvm0 (h.2.2.1 w hw).2⟩, fun q hq1 => (h.2.2.2.1 q hq1).moved hvm, h.2.2.2.2.1.moved hvm, h.2.2.2.2.2.moved hvm⟩
theorem am_ro.go {rs : Nat → Option (Nat × (Nat → Int32))} {ra : Nat → Nat} {A B : Nat → Prop} {u U : State} {H H1 : Heap} (h : am_ro rs ra A u H) (hvm : u.vm.Alike U.vm) (hq : ∀ a : Nat, a < H.size → ¬ A a → H1[a]? = H[a]?) (hAB : ∀ q, B q → A q) : am_ro rs ra B U H1 :=
  fun j n f hj => (((h j n f hj).moved hvm).kept hq).narrow hAB
/-- a contract's start -/
def am_Pc (D : va_G) (cl : List vw_C) (tc : Nat → ClassId) (rs : Nat → Option (Nat × (Nat → Int32))) (zs : am_Zt) (ad : am_A) (as : List am_V) (h : am_H) (sz : Nat) : Array Value → State → Prop :=
  va_Pc (as.map (am_t ad)) (fun U => U.heap.size = sz ∧ va_P D cl (am_ws tc ad 0 h) U.heap ∧ va_K D cl (am_tys tc) U ∧ va_D (fun _ => True) (am_ws tc ad 0 h) ∧ am_ro rs ad.2 (va_A (am_ws tc ad 0 h) sz) U U.heap ∧ am_zs zs ad.2 (va_A (am_ws tc ad 0 h) sz) U U.heap)
def am_M (cl : List vw_C) (rs : Nat → Option (Nat × (Nat → Int32))) (zs : am_Zt) (l : Launch) (y : MethodName) (ws : List Cond) (rm : Room) (F : List am_V → am_H → Option am_O) : Prop :=
  ∀ (D : va_G) (tc : Nat → ClassId) (ad : am_A) (as : List am_V) (h : am_H) (sz : Nat) (out : am_O), F as h = some out → vx_Met l y ws rm (am_Pc D cl tc rs zs ad as h sz) (am_Qc D cl tc (va_A (am_ws tc ad 0 h) sz) h.length ad out) (am_XC D cl tc (va_A (am_ws tc ad 0 h) sz) h.length ad out) rm.cells rm.slots (va_A (am_ws tc ad 0 h) sz)
theorem am_blind {D : va_G} {cl : List vw_C} {tc : Nat → ClassId} {rs : Nat → Option (Nat × (Nat → Int32))} {zs : am_Zt} {ad : am_A} {as : List am_V} {h : am_H} {sz : Nat} : FrameBlind (am_Pc D cl tc rs zs ad as h sz) := by
  intro a U g mk q
  obtain ⟨q0, q1, q2, q3, q4, q5, q6⟩ := q
  have hA : U.vm.Alike (U.calling g mk a).vm := Vm.Alike.refl U.vm
  exact ⟨q0, q1, q2, va_K.moved hA q3, q4, q5.go hA (fun _ _ _ => rfl) (fun _ h => h), q6.same rfl hA⟩
/-- what a method's body stands on -/
def am_Cx (p : Program) (l : Launch) (R : Room) (s : State) (m : MethodId) (args : Array Value) (meth : Method) (c : Code) (cc : ByteArray) (nL : Nat) (Ts : List Cond) (own : String) (D : va_G) (cl : List vw_C) (tc : Nat → ClassId) (A : Nat → Prop) (rs : Nat → Option (Nat × (Nat → Int32))) (zs : am_Zt) (hs : am_Hs) (ad0 : am_A) : Prop :=
  am_G p m c cc nL s args Ts own D cl tc A rs ad0 ∧ am_zs zs ad0.2 A s s.heap ∧ meth.locks = false ∧ c.exceptionTable.toList = tableOf (am_tb hs) ∧ l.stackTraces = false
section AMC
variable {p : Program} {l : Launch} {e : Env} {R : Room} {s : State} {m : MethodId} {args : Array Value} {below : List Frame} {meth : Method} {c : Code} {D : va_G} {cl : List vw_C} {tc : Nat → ClassId} {A : Nat → Prop} {nL n0 : Nat} {ad0 : am_A} {cc : ByteArray} {own : String} {Ts : List Cond} {rs : Nat → Option (Nat × (Nat → Int32))} {zs : am_Zt} {hs : am_Hs}
theorem am_J.sub {ad : am_A} {h : am_H} {H : Heap} {locs : List Loc} (hA : ∀ q, s.heap.size ≤ q → A q) (J : am_J D cl tc A s n0 ad0 ad h H locs) : ∀ q, va_A (am_ws tc ad 0 h) H.size q → A q := by
  obtain ⟨-, -, -, -, hD, hS⟩ := J
  intro q hq
  rcases hq with ⟨k, e, hk⟩ | hq
  · exact hD.2 k _ hk
  · exact hA q (Nat.le_trans hS.1 hq)
theorem am_pre (C : am_Cx p l R s m args meth c cc nL Ts own D cl tc A rs zs hs ad0) {ad : am_A} {h : am_H} {H : Heap} {locs : List Loc} (J : am_J D cl tc A s n0 ad0 ad h H locs) (as : List am_V) {U : State} (hU : U.heap = H) (hW : s.WarmedH U.vm) : am_Pc D cl tc rs zs ad as h H.size (as.map (am_t ad)).toArray U := by
  obtain ⟨⟨_, hK, hA, hro⟩, hz, -⟩ := C
  have hsub := am_J.sub hA J
  obtain ⟨j1, j2, j3, hP, hD, hS⟩ := J
  subst hU
  rw [← j3] at hro hz
  exact ⟨rfl, rfl, hP, va_K.moved hW.alike hK, hD.weaken (fun _ _ _ _ => trivial), hro.go hW.alike hS.2.1 hsub, hz.go hW hS.2.1 hsub⟩
/-- the receiver is an object of that class -/
def am_rcv (rk : Option Nat) (as : List am_V) (h : am_H) : Bool := match rk with
  | none => true
  | some ci => match as with
    | .inl (.ref k) :: _ => (match h[k]? with
      | some (.inr (.inr (.inl (ci', _)))) => ci' == ci
      | _ => false)
    | _ => false
/-- a call that stands: what the callee's run says comes back -/
def am_rn (p : Program) (l : Launch) (e : Env) (R : Room) (s : State) (m : MethodId) (args : Array Value) (below : List Frame) (meth : Method) (c : Code) (D : va_G) (cl : List vw_C) (tc : Nat → ClassId) (A : Nat → Prop) (nL n0 : Nat) (ad0 : am_A) (cc : ByteArray) (key : Nat × Nat) (rk : Option Nat) (n : Nat) (F : List am_V → am_H → Option am_O) (mc ms : Nat) : Prop :=
  ∀ (pc : Nat) (i : Instr) (ad : am_A) (h : am_H) (H : Heap) (locs : List Loc) (cells slots : Nat) (ls : Array Slot) (as rest : List am_V) (o1 : am_O), am_key i = key → decode cc pc = .ok (i, 3) → am_J D cl tc A s n0 ad0 ad h H locs → ls.size = nL → am_rcv rk as h = true → as.length = n → ((rest.map (am_t ad)).map fun v => v.category).sum ≤ 8 → F as h = some o1 → cells + mc ≤ R.cells → slots + ms ≤ R.slots →
    vx_Run p l e R s m args below meth c H locs cells slots mc ms (F0 m pc ls ((as.reverse ++ rest).map (am_t ad))) (rest.map (am_t ad)) (am_Qc D cl tc (va_A (am_ws tc ad 0 h) H.size) h.length ad o1 (as.map (am_t ad)).toArray) (am_XC D cl tc (va_A (am_ws tc ad 0 h) H.size) h.length ad o1) (va_A (am_ws tc ad 0 h) H.size)
theorem am_cont (C : am_Cx p l R s m args meth c cc nL Ts own D cl tc A rs zs hs ad0) {ad : am_A} {h : am_H} {H : Heap} {locs : List Loc} (J : am_J D cl tc A s n0 ad0 ad h H locs) {lv : am_Lv} {ls : Array Slot} (hl : lv_has ls nL (lv.map fun q => (q.1, am_t ad q.2))) {b : Nat × Nat} {cells slots mc ms pc : Nat} (hc : cells + b.1 ≤ R.cells) (hs : slots + b.2 ≤ R.slots) (h1 : mc ≤ b.1) (h2 : ms ≤ b.2) {rest : List am_V} {st0 : List Value} (c1 : lv.all (fun q => am_clV h q.2) = true) (c2 : rest.all (am_clV h) = true) {o1 out : am_O} {qa : Array Value}
    (hr : vx_Run p l e R s m args below meth c H locs cells slots mc ms (F0 m pc ls st0) (rest.map (am_t ad)) (am_Qc D cl tc (va_A (am_ws tc ad 0 h) H.size) h.length ad o1 qa) (am_XC D cl tc (va_A (am_ws tc ad 0 h) H.size) h.length ad o1) (va_A (am_ws tc ad 0 h) H.size))
    (kv : ∀ v h', o1 = (.inl v, h') → am_W p l e R s m args below meth c (am_Q below args s R D cl tc A n0 ad0 out) D cl tc A nL n0 ad0 (pc + 3) lv (v.toList ++ rest) h' (b.1 - mc, b.2 - ms)) (kx : ∀ x h', o1 = (.inr x, h') → am_WX p l e R s m args below meth c (am_Q below args s R D cl tc A n0 ad0 out) D cl tc A nL n0 ad0 pc lv x h' (b.1 - mc, b.2 - ms)) :
    W p l e R s m args below meth c H locs cells slots (am_Q below args s R D cl tc A n0 ad0 out) (F0 m pc ls st0) := by
  obtain ⟨⟨_, hK, hA, hro⟩, -⟩ := C
  have hsub := am_J.sub hA J
  obtain ⟨j1, j2, j3, hP, hD, hS⟩ := J
  intro T hT X
  rcases hr T hT X with ⟨v, st₀, t, T', L, h0, X', hL, e1, e2, ⟨⟨v', h', ad', ho, hv, E1, E2, E3, E4, E5⟩, hF⟩, st⟩ | ⟨q, st₀, t, T', L, EX, ce, h0, X', hL, e1, e2, ⟨⟨x, h', ad', rfl, ho, E1, E2, E3, E4, E5⟩, hF⟩, hce, hcv, hcl', st⟩
  · have hvv : v = v'.map (am_t ad') := Outcome.returned.inj hv
    subst hvv
    obtain ⟨k1, k2, k3⟩ := vx_keep h0 e1 hS (fun q _ h => hsub q h) hsub hL hF
    have J' : am_J D cl tc A s n0 ad0 ad' h' T'.heap (locs ++ L) := ⟨Nat.le_trans j1 E1, fun k hk => (E2 k (Nat.lt_of_lt_of_le hk j1)).trans (j2 k hk), E3.trans j3, by rw [e1]; exact E4, E5.weaken (fun _ q _ hq => hsub q.1 hq), k3⟩
    obtain ⟨t2, a1, b1⟩ := kv v' h' ho ad' T'.heap (locs ++ L) (cells + mc) (slots + ms) ls J' (by rw [am_cl_lv c1 E2 E3]; exact hl) (by show cells + mc + (b.1 - mc) ≤ _; omega) (by show slots + ms + (b.2 - ms) ≤ _; omega) T' rfl X'
    refine ⟨t2, st t2 ?_, b1⟩
    rw [List.map_append, am_cl_L c2 E2 E3] at a1
    cases v' with
    | none => exact a1
    | some v' => exact a1
  · obtain ⟨k1, k2, k3⟩ := vx_keep h0 e1 hS (fun q _ h => hsub q h) hsub hL hF
    have J' : am_J D cl tc A s n0 ad0 ad' h' T'.heap (locs ++ L) := ⟨Nat.le_trans j1 E1, fun k hk => (E2 k (Nat.lt_of_lt_of_le hk j1)).trans (j2 k hk), E3.trans j3, by rw [e1]; exact E4, E5.weaken (fun _ q _ hq => hsub q.1 hq), k3⟩
    obtain ⟨t2, a1, b1⟩ := kx x h' ho ad' T'.heap (locs ++ L) (cells + mc) (slots + ms) ls (rest.map (am_t ad)) q ce J' (by rw [am_cl_lv c1 E2 E3]; exact hl) (by show cells + mc + (b.1 - mc) ≤ _; omega) (by show slots + ms + (b.2 - ms) ≤ _; omega) (by rw [e1]; exact hce) hcv hcl' T' rfl X'
    exact ⟨t2, st.trans a1, b1⟩
def am_n : am_I → Nat
  | (_, _, n) :: _ => n
  | [] => 0
/-- a call whose answer is an int -/
def am_fci (rk : Option Nat) (n : Nat) (F : List am_V → am_H → Option am_O) (mc ms : Nat) : am_F := fun is lv st h b K KX =>
  if am_n is = 3 then (if am_rcv rk (st.take n).reverse h = true then (if (st.take n).length = n then (if ((st.drop n).map am_cat).sum ≤ 8 then (if (lv.all (fun q => am_clV h q.2) && (st.drop n).all (am_clV h)) = true then (if mc ≤ b.1 then (if ms ≤ b.2 then (match F (st.take n).reverse h with
    | some (.inl (some (.inl (.int x))), h') => K (.inl (.int x) :: st.drop n) h' (b.1 - mc, b.2 - ms)
    | some (.inr x, h') => KX x h' (b.1 - mc, b.2 - ms)
    | _ => none) else none) else none) else none) else none) else none) else none) else none
/-- a call without an answer -/
def am_fcv (rk : Option Nat) (n : Nat) (F : List am_V → am_H → Option am_O) (mc ms : Nat) : am_F := fun is lv st h b K KX =>
  if am_n is = 3 then (if am_rcv rk (st.take n).reverse h = true then (if (st.take n).length = n then (if ((st.drop n).map am_cat).sum ≤ 8 then (if (lv.all (fun q => am_clV h q.2) && (st.drop n).all (am_clV h)) = true then (if mc ≤ b.1 then (if ms ≤ b.2 then (match F (st.take n).reverse h with
    | some (.inl none, h') => K (st.drop n) h' (b.1 - mc, b.2 - ms)
    | some (.inr x, h') => KX x h' (b.1 - mc, b.2 - ms)
    | _ => none) else none) else none) else none) else none) else none) else none) else none
theorem am_catsum (ad : am_A) (st : List am_V) : ((st.map (am_t ad)).map fun v => v.category) = st.map am_cat := by
  rw [List.map_map]
  apply List.map_congr_left
  intro v _
  exact am_t_cat ad v
theorem am_fci_ok (C : am_Cx p l R s m args meth c cc nL Ts own D cl tc A rs zs hs ad0) {key : Nat × Nat} {rk : Option Nat} {n mc ms : Nat} {F : List am_V → am_H → Option am_O} (hr : am_rn p l e R s m args below meth c D cl tc A nL n0 ad0 cc key rk n F mc ms) : am_op p l e R s m args below meth c D cl tc A nL n0 ad0 cc key (am_fci rk n F mc ms) := by
  intro out pc n3 i is lv st h b K KX hkey hch h1 kk kx ad H locs cells slots ls J hl hc hs
  unfold am_fci at h1
  replace h1 := am_if h1
  obtain ⟨a0, h1⟩ := h1
  have a0 : n3 = 3 := a0
  subst a0
  obtain ⟨a9, h1⟩ := am_if h1
  obtain ⟨a1, h1⟩ := am_if h1
  obtain ⟨a2, h1⟩ := am_if h1
  obtain ⟨a3, h1⟩ := am_if h1
  obtain ⟨a4, h1⟩ := am_if h1
  obtain ⟨a5, h1⟩ := am_if h1
  simp only [Bool.and_eq_true] at a3
  cases hF : F (st.take n).reverse h with
  | none => rw [hF] at h1; cases h1
  | some o1 =>
    rw [hF] at h1
    have run := hr pc i ad h H locs cells slots ls (st.take n).reverse (st.drop n) o1 hkey (am_chk_hd hch) J hl.1 a9 (by rw [List.length_reverse]; exact a1) (by rw [am_catsum]; exact a2) hF (by omega) (by omega)
    rw [List.reverse_reverse, List.take_append_drop] at run
    refine am_cont C J hl hc hs a4 a5 a3.1 a3.2 run (fun v h' ho => ?_) (fun X h' ho => ?_)
    · subst ho
      split at h1
      · rename_i x h9 q9
        cases q9
        exact kk _ _ _ h1
      · rename_i q9
        cases q9
      · cases h1
    · subst ho
      exact kx _ _ _ h1
theorem am_fcv_ok (C : am_Cx p l R s m args meth c cc nL Ts own D cl tc A rs zs hs ad0) {key : Nat × Nat} {rk : Option Nat} {n mc ms : Nat} {F : List am_V → am_H → Option am_O} (hr : am_rn p l e R s m args below meth c D cl tc A nL n0 ad0 cc key rk n F mc ms) : am_op p l e R s m args below meth c D cl tc A nL n0 ad0 cc key (am_fcv rk n F mc ms) := by
  intro out pc n3 i is lv st h b K KX hkey hch h1 kk kx ad H locs cells slots ls J hl hc hs
  unfold am_fcv at h1
  replace h1 := am_if h1
  obtain ⟨a0, h1⟩ := h1
  have a0 : n3 = 3 := a0
  subst a0
  obtain ⟨a9, h1⟩ := am_if h1
  obtain ⟨a1, h1⟩ := am_if h1
  obtain ⟨a2, h1⟩ := am_if h1
  obtain ⟨a3, h1⟩ := am_if h1
  obtain ⟨a4, h1⟩ := am_if h1
  obtain ⟨a5, h1⟩ := am_if h1
  simp only [Bool.and_eq_true] at a3
  cases hF : F (st.take n).reverse h with
  | none => rw [hF] at h1; cases h1
  | some o1 =>
    rw [hF] at h1
    have run := hr pc i ad h H locs cells slots ls (st.take n).reverse (st.drop n) o1 hkey (am_chk_hd hch) J hl.1 a9 (by rw [List.length_reverse]; exact a1) (by rw [am_catsum]; exact a2) hF (by omega) (by omega)
    rw [List.reverse_reverse, List.take_append_drop] at run
    refine am_cont C J hl hc hs a4 a5 a3.1 a3.2 run (fun v h' ho => ?_) (fun X h' ho => ?_)
    · subst ho
      split at h1
      · rename_i h9 q9
        cases q9
        exact kk _ _ _ h1
      · rename_i q9
        cases q9
      · cases h1
    · subst ho
      exact kx _ _ _ h1
theorem am_key2 {i : Instr} {k : Nat} (h : am_key i = (2, k)) : i = .invokestatic k := by
  unfold am_key at h
  split at h <;> simp_all
theorem am_key3 {i : Instr} {k : Nat} (h : am_key i = (3, k)) : i = .invokevirtual k := by
  unfold am_key at h
  split at h <;> simp_all
theorem am_key4 {i : Instr} {k : Nat} (h : am_key i = (4, k)) : i = .invokespecial k := by
  unfold am_key at h
  split at h <;> simp_all
end AMC
end
section
/-! fields -/
theorem am_key0 {i : Instr} {k : Nat} (h : am_key i = (0, k)) : i = .getfield k := by
  unfold am_key at h
  split at h <;> simp_all
theorem am_key1 {i : Instr} {k : Nat} (h : am_key i = (1, k)) : i = .putfield k := by
  unfold am_key at h
  split at h <;> simp_all
theorem am_key5 {i : Instr} {k : Nat} (h : am_key i = (5, k)) : i = .new k := by
  unfold am_key at h
  split at h <;> simp_all
theorem am_key6 {i : Instr} {k : Nat} (h : am_key i = (6, k)) : i = .getstatic k := by
  unfold am_key at h
  split at h <;> simp_all
def am_fget (ci j : Nat) : am_F := fun is _ st h b K _ => if am_n is = 3 then (match st with
  | .inl (.ref k) :: r => (match h[k]? with
    | some (.inr (.inr (.inl (ci', fs)))) => if ci' = ci then (match fs[j]? with
      | some v => K (v :: r) h b
      | none => none) else none
    | _ => none)
  | _ => none) else none
/-- 0: an int, 1: a cell -/
def am_fok : Nat → am_V → Bool
  | 0, .inl (.int _) => true
  | 1, .inl (.ref _) => true
  | _, _ => false
def am_fput (ci j q : Nat) : am_F := fun is _ st h b K _ => if am_n is = 3 then (match st with
  | v :: .inl (.ref k) :: r => (match h[k]? with
    | some (.inr (.inr (.inl (ci', fs)))) => if ci' = ci then (if j < fs.length then (if am_fok q v = true then K r (h.set k (.inr (.inr (.inl (ci', fs.set j v))))) b else none) else none) else none
    | _ => none)
  | _ => none) else none
section AMF
variable {p : Program} {l : Launch} {e : Env} {R : Room} {s : State} {m : MethodId} {args : Array Value} {below : List Frame} {meth : Method} {c : Code} {D : va_G} {cl : List vw_C} {tc : Nat → ClassId} {A : Nat → Prop} {nL n0 : Nat} {ad0 : am_A} {cc : ByteArray} {own : String} {Ts : List Cond} {rs : Nat → Option (Nat × (Nat → Int32))} {zs : am_Zt} {hs : am_Hs}
theorem am_fget_ok (C : am_Cx p l R s m args meth c cc nL Ts own D cl tc A rs zs hs ad0) {idx ci j N : Nat} {T : u_T} {Cn : String} (hc : cl[ci]? = some (Cn, T, N)) (hin : ∀ w ∈ u_ws Cn T N, w ∈ Ts) (hj : j < N) (hlink : Cond.fieldLink own idx (T j).1 (T j).2.1 (T j).2.2.1 ∈ Ts) : am_op p l e R s m args below meth c D cl tc A nL n0 ad0 cc (0, idx) (am_fget ci j) := by
  intro out pc n3 i is lv st h b K KX hkey hch h1 kk kx ad H locs cells slots ls J hl hc' hs
  have hi := am_key0 hkey
  subst hi
  obtain ⟨⟨⟨hx, hb, hml, hown, hts⟩, hK, hA, hro⟩, -⟩ := C
  have hlk := hts _ hlink
  unfold am_fget at h1
  replace h1 := am_if h1
  obtain ⟨a0, h1⟩ := h1
  have a0 : n3 = 3 := a0
  subst a0
  split at h1
  · split at h1
    · rename_i hk
      replace h1 := am_if h1
      obtain ⟨rfl, h1⟩ := h1
      split at h1
      · rename_i v hv
        obtain ⟨q0, hq⟩ := am_rd J hk 0 rfl
        exact va_get (D := D) hx hb hts hin hown hK J.2.2.2.1 q0 hq hc j hj hlk (fun _ h9 => h9) (v := am_t ad v) (by rw [List.getElem?_map, hv]; rfl) (am_chk_hd hch) (kk _ _ _ h1 ad H locs cells slots ls J hl hc' hs)
      · cases h1
    · cases h1
  · cases h1
/-- a nest mate's field -/
theorem am_fgetN_ok (C : am_Cx p l R s m args meth c cc nL Ts own D cl tc A rs zs hs ad0) {idx ci j N : Nat} {T : u_T} {Cn host : String} (hc : cl[ci]? = some (Cn, T, N)) (hin : ∀ w ∈ u_ws Cn T N, w ∈ Ts) (hj : j < N) (hlink : Cond.fieldLinkNest own idx (T j).1 (T j).2.1 (T j).2.2.1 host ∈ zs.2) : am_op p l e R s m args below meth c D cl tc A nL n0 ad0 cc (0, idx) (am_fget ci j) := by
  intro out pc n3 i is lv st h b K KX hkey hch h1 kk kx ad H locs cells slots ls J hl hc' hs
  have hi := am_key0 hkey
  subst hi
  obtain ⟨⟨⟨hx, hb, hml, hown, hts⟩, hK, hA, hro⟩, hz, -⟩ := C
  have hlk := va_Nw.use rfl (A := args) (hz.2.2.1 _ hlink).2
  unfold am_fget at h1
  replace h1 := am_if h1
  obtain ⟨a0, h1⟩ := h1
  have a0 : n3 = 3 := a0
  subst a0
  split at h1
  · split at h1
    · rename_i hk
      replace h1 := am_if h1
      obtain ⟨rfl, h1⟩ := h1
      split at h1
      · rename_i v hv
        obtain ⟨q0, hq⟩ := am_rd J hk 0 rfl
        exact va_getN (D := D) hx hb hts hin hown hK J.2.2.2.1 q0 hq hc j hj hlk (fun _ h9 => h9) (v := am_t ad v) (by rw [List.getElem?_map, hv]; rfl) (am_chk_hd hch) (kk _ _ _ h1 ad H locs cells slots ls J hl hc' hs)
      · cases h1
    · cases h1
  · cases h1
theorem am_fok_n {q : Nat} {v : am_V} {ad : am_A} {ty : FieldType} (hq : am_fok q v = true) (h0 : q = 0 → ty = .int) (h1 : q = 1 → (∃ C, ty = .object C) ∨ ∃ t, ty = .array t) : narrow ty (am_t ad v) = am_t ad v ∧ fits ty (am_t ad v) = true := by
  unfold am_fok at hq
  split at hq
  · rw [h0 rfl]
    exact ⟨rfl, rfl⟩
  · rcases h1 rfl with ⟨C, rfl⟩ | ⟨t, rfl⟩
    · exact ⟨rfl, rfl⟩
    · exact ⟨rfl, rfl⟩
  · cases hq
theorem am_fput_ok (C : am_Cx p l R s m args meth c cc nL Ts own D cl tc A rs zs hs ad0) {idx ci j q N : Nat} {T : u_T} {Cn : String} (ty0 : Nat → FieldType) (hty : ∀ k, k < N → parseFieldDescriptor (T k).2.2.1 = some (ty0 k)) (hnm : ∀ a, a < N → ∀ b, b < N → a ≠ b → (T a).2.1 ≠ (T b).2.1) (hc : cl[ci]? = some (Cn, T, N)) (hin : ∀ w ∈ u_ws Cn T N, w ∈ Ts) (hj : j < N) (hlink : Cond.fieldLink own idx (T j).1 (T j).2.1 (T j).2.2.1 ∈ Ts) (hf : (T j).2.2.2 = false ∨ ((T j).2.2.2 = true ∧ meth.name = "<init>" ∧ (T j).1 = own)) (h0 : q = 0 → ty0 j = .int) (h1 : q = 1 → (∃ C, ty0 j = .object C) ∨ ∃ t, ty0 j = .array t) : am_op p l e R s m args below meth c D cl tc A nL n0 ad0 cc (1, idx) (am_fput ci j q) := by
  intro out pc n3 i is lv st h b K KX hkey hch g1 kk kx ad H locs cells slots ls J hl hc' hs
  have hi := am_key1 hkey
  subst hi
  obtain ⟨⟨⟨hx, hb, hml, hown, hts⟩, hK, hA, hro⟩, -⟩ := C
  unfold am_fput at g1
  replace g1 := am_if g1
  obtain ⟨a0, g1⟩ := g1
  have a0 : n3 = 3 := a0
  subst a0
  split at g1
  · rename_i v k r
    split at g1
    · rename_i ci9 fs9 hk
      replace g1 := am_if g1
      obtain ⟨rfl, g1⟩ := g1
      obtain ⟨hlt, g1⟩ := am_if g1
      obtain ⟨hq, g1⟩ := am_if g1
      obtain ⟨n1, n2⟩ := am_fok_n (ad := ad) hq h0 h1
      obtain ⟨q0, g2, g3⟩ := am_wrO J hk (fs9.set j v)
      simp only [List.map_set] at g3
      obtain ⟨-, -, -, hP, hD, hS⟩ := J
      rcases hf with hf | ⟨hf, hm, ho⟩
      · exact va_put (D := D) hx hb hts hin ty0 hty hnm hown hK hP hD hS q0 g2 hc j hj (hts _ hlink) (fun _ h9 => h9) hf (hty j hj) n1 n2 (by rw [List.length_map]; exact hlt) (am_chk_hd hch) (fun H1 locs1 hP1 hD1 hS1 => kk _ _ _ g1 ad H1 locs1 cells slots ls (g3 H1 locs1 hP1 hD1 hS1) hl hc' hs)
      · exact va_putF (D := D) hx hb hts hin ty0 hty hnm hown hK hP hD hS q0 g2 hc j hj (hts _ hlink) (fun _ h9 => h9) hf hm ho (hty j hj) n1 n2 (by rw [List.length_map]; exact hlt) (am_chk_hd hch) (fun H1 locs1 hP1 hD1 hS1 => kk _ _ _ g1 ad H1 locs1 cells slots ls (g3 H1 locs1 hP1 hD1 hS1) hl hc' hs)
    · cases g1
  · cases g1
/-- a static that holds a constant array -/
def am_fgs (j : Nat) : am_F := fun is _ st h b K _ => if am_n is = 3 then K (.inl (.retAddr j) :: st) h b else none
theorem am_fgs_ok (C : am_Cx p l R s m args meth c cc nL Ts own D cl tc A rs zs hs ad0) {idx j : Nat} {Cn n d : String} (hz : (Cn, n, d, j) ∈ zs.1) (hlink : Cond.fieldLink own idx Cn n d ∈ Ts) : am_op p l e R s m args below meth c D cl tc A nL n0 ad0 cc (6, idx) (am_fgs j) := by
  intro out pc n3 i is lv st h b K KX hkey hch h1 kk kx ad H locs cells slots ls J hl hc' hs
  have hi := am_key6 hkey
  subst hi
  obtain ⟨⟨⟨hx, hb, hml, hown, hts⟩, hK, hA, hro⟩, hzs, -⟩ := C
  unfold am_fgs at h1
  replace h1 := am_if h1
  obtain ⟨a0, h1⟩ := h1
  have a0 : n3 = 3 := a0
  subst a0
  have hZ := hzs.2.2.2.1 _ hz
  rw [← J.2.2.1] at hZ
  exact va_gets hx hb hZ J.2.2.2.2.2 hown (hts _ hlink) (fun _ h9 => h9) (am_chk_hd hch) (kk _ _ _ h1 ad H locs cells slots ls J hl hc' hs)
/-- 'throw new E()' -/
def am_fthr (x ic : Nat) : am_F := fun is _ st h b _ _ => match is with
  | (_, _, n0) :: (_, .dup, n1) :: (_, .invokespecial k, n2) :: (_, .athrow, n3) :: _ => if k = ic then (if n0 = 3 then (if n1 = 1 then (if n2 = 3 then (if n3 = 1 then (if 1 ≤ b.1 then (if 6 ≤ b.2 then (if (st.map am_cat).sum ≤ 8 then some (.inr x, h) else none) else none) else none) else none) else none) else none) else none) else none
  | _ => none
abbrev am_sup : List String := ["java/lang/RuntimeException", "java/lang/Exception"]
theorem am_fthr_ok (C : am_Cx p l R s m args meth c cc nL Ts own D cl tc A rs zs [] ad0) {ik ic x : Nat} (hcls : Bundle.fit (am_xn x) = true) (hk : Cond.classLink own ik (am_xn x) ∈ Ts) (hini : Cond.initialized (am_xn x) ∈ Ts) (hat : ∀ w ∈ vx_at0 own ic (am_xn x) am_sup, w ∈ Ts ∨ w ∈ zs.2) (hgood : ∀ w ∈ Cond.classLink own ik (am_xn x) :: Cond.initialized (am_xn x) :: vx_at0 own ic (am_xn x) am_sup, vx_ot w = true) (hR : 5 < R.frames ∧ 89 ≤ R.locals) : am_op p l e R s m args below meth c D cl tc A nL n0 ad0 cc (5, ik) (am_fthr x ic) := by
  intro out pc n3 i is lv st h b K KX hkey hch h1 kk kx ad H locs cells slots ls J hl hc' hs'
  have hi := am_key5 hkey
  subst hi
  obtain ⟨⟨⟨hx, hb, hml, hown, hts⟩, hK, hA, hro⟩, hzs, hlocks, htb, hst⟩ := C
  unfold am_fthr at h1
  split at h1
  · rename_i q0 q1 m0 p1 m1 p2 k m2 p3 m3 is9 e9
    replace h1 := am_if h1
    obtain ⟨rfl, h1⟩ := h1
    replace h1 := am_if h1
    obtain ⟨rfl, h1⟩ := h1
    replace h1 := am_if h1
    obtain ⟨rfl, h1⟩ := h1
    replace h1 := am_if h1
    obtain ⟨rfl, h1⟩ := h1
    replace h1 := am_if h1
    obtain ⟨rfl, h1⟩ := h1
    obtain ⟨hb1, h1⟩ := am_if h1
    obtain ⟨hb2, h1⟩ := am_if h1
    obtain ⟨hsm, h1⟩ := am_if h1
    cases h1
    cases e9
    have t1 := am_chk_tl hch
    have t2 := am_chk_tl t1
    have t3 := am_chk_tl t2
    have u1 : p1 = pc + 3 := am_chk_nx hch
    have u2 : p2 = p1 + 1 := am_chk_nx t1
    have u3 : p3 = p2 + 3 := am_chk_nx t2
    subst u1
    subst u2
    subst u3
    obtain ⟨j1, j2, j3, hP, hD, hS⟩ := J
    exact vx_throw0 (A := A) (names := am_sup) (mc := R.cells) (ms := R.slots) hx hb hst hown hcls (by decide +kernel) (hts _ hk) (hts _ hini) (fun w hw => by
      rcases hat w hw with h9 | h9
      · exact hts w h9
      · exact va_Nw.use (am_wk_tab (hzs.2.2.1 w h9).1) (hzs.2.2.1 w h9).2) hgood hzs.2.2.2.2.1 hzs.2.2.2.2.2 hS (hl.1.trans hml.symm) (am_chk_hd hch) (am_chk_hd t1) (am_chk_hd t2) (am_chk_hd t3) (fun z hz => by rw [htb] at hz; cases hz) (by show 2 + 3 < _; omega) (by rw [am_catsum]; show _ + (13 * 3 + 42) ≤ _; omega) (by omega) (by omega) hlocks
      (fun t hvm hsz hq => ⟨⟨x, h, ad, rfl, rfl, j1, j2, j3, hP.kept (fun k q hk => hq q.1 (hP k q hk).lt), hD⟩, Nat.le_trans hS.1 hsz, fun q h1 h2 => (hq q (Nat.lt_of_lt_of_le h1 hS.1)).trans (hS.2.1 q h1 h2)⟩) hS.2.2 (by omega) (by omega)
  · cases h1
end AMF
end
section
/-! how a call stands: static, virtual, a constructor's, of a method with handlers -/
section AMN
variable {p : Program} {l : Launch} {e : Env} {R : Room} {s : State} {m : MethodId} {args : Array Value} {below : List Frame} {meth : Method} {c : Code} {D : va_G} {cl : List vw_C} {tc : Nat → ClassId} {A : Nat → Prop} {nL n0 : Nat} {ad0 : am_A} {cc : ByteArray} {own : String} {Ts : List Cond} {rs : Nat → Option (Nat × (Nat → Int32))} {zs : am_Zt} {hs : am_Hs}
variable {y : MethodName} {ws ws' : List Cond} {rm : Room} {F : List am_V → am_H → Option am_O} {bytes : ByteArray} {maxL idx n : Nat} {ret : Option FieldType}
theorem am_stk (ad : am_A) (as rest : List am_V) : (as.reverse ++ rest).map (am_t ad) = (as.map (am_t ad)).reverse ++ rest.map (am_t ad) := by
  rw [List.map_append, List.map_reverse]
theorem am_rn_S (C : am_Cx p l R s m args meth c cc nL Ts own D cl tc A rs zs hs ad0) (hM : am_M cl rs zs l y ws rm F) (hw : ws = Cond.code y bytes maxL ret :: ws') (hG : GoodIn Ts ws) (hlink : Cond.methodLink own idx y ∈ Ts) (hst : Cond.static y ∈ Ts) (hini : Cond.initialized y.cls ∈ Ts)
    (hd : y.cls ≠ "java/lang/invoke/MethodHandle" ∧ y.cls ≠ "java/lang/invoke/VarHandle" ∧ (parseMethodDescriptor y.desc).map (fun d => d.parameters.length) = some n) (hR : rm.frames + 1 ≤ R.frames ∧ 8 + (maxL + 11) + rm.locals ≤ R.locals) : am_rn p l e R s m args below meth c D cl tc A nL n0 ad0 cc (2, idx) none n F rm.cells rm.slots := by
  intro pc i ad h H locs cells slots ls as rest o1 hkey hdg J hsz _ hn hW hF hc hs'
  have hi := am_key2 hkey
  subst hi
  have S := C.1.1
  have hts := S.2.2.2.2
  exact vx_runS (As := as.map (am_t ad)) S (hM D tc ad as h H.size o1 hF) ⟨callB_of n hts hG hw rfl rfl (hts _ hini) (hts _ hlink) hd hR, hts _ hst⟩ ⟨am_blind, fun U hU hW => am_pre C J as hU hW⟩ rfl (by rw [List.length_map]; exact hn) hsz (am_stk ad as rest) (lv_room hW) hdg ⟨hc, hs'⟩
theorem am_rn_SX {hh : List (Nat × Nat × Nat × Nat)} (C : am_Cx p l R s m args meth c cc nL Ts own D cl tc A rs zs hs ad0) (hM : am_M cl rs zs l y ws rm F) (hw : ws = Cond.codeWith y bytes maxL ret hh :: ws') (hG : GoodIn Ts ws) (hlink : Cond.methodLink own idx y ∈ Ts) (hst : Cond.static y ∈ Ts) (hini : Cond.initialized y.cls ∈ Ts)
    (hd : y.cls ≠ "java/lang/invoke/MethodHandle" ∧ y.cls ≠ "java/lang/invoke/VarHandle" ∧ (parseMethodDescriptor y.desc).map (fun d => d.parameters.length) = some n) (hR : rm.frames + 1 ≤ R.frames ∧ 8 + (maxL + 11) + rm.locals ≤ R.locals) : am_rn p l e R s m args below meth c D cl tc A nL n0 ad0 cc (2, idx) none n F rm.cells rm.slots := by
  intro pc i ad h H locs cells slots ls as rest o1 hkey hdg J hsz _ hn hW hF hc hs'
  have hi := am_key2 hkey
  subst hi
  have S := C.1.1
  have hts := S.2.2.2.2
  have hcm : Cond.codeWith y bytes maxL ret hh ∈ ws := by rw [hw]; exact List.mem_cons_self
  exact vx_runSX (As := as.map (am_t ad)) S (hM D tc ad as h H.size o1 hF) ⟨⟨rfl, rfl, hR.1, hR.2, pay_in hts hG, hcm⟩, hts _ (hG _ hcm).1, hts _ hini, ⟨hd.1, hd.2.1⟩, fun sig h9 => by
      have h2 := hd.2.2
      rw [h9] at h2
      exact (Option.some.inj h2).symm, hts _ hlink, hts _ hst⟩ ⟨am_blind, fun U hU hW => am_pre C J as hU hW⟩ rfl (by rw [List.length_map]; exact hn) hsz (am_stk ad as rest) (lv_room hW) hdg ⟨hc, hs'⟩
theorem am_rcv_ok {ci : Nat} {as : List am_V} {h : am_H} (hr : am_rcv (some ci) as h = true) : ∃ k fs as', as = .inl (.ref k) :: as' ∧ h[k]? = some (.inr (.inr (.inl (ci, fs)))) := by
  unfold am_rcv at hr
  dsimp only at hr
  split at hr
  · rename_i k as'
    split at hr
    · rename_i ci' fs hk
      have := eq_of_beq hr
      subst this
      exact ⟨k, fs, as', rfl, hk⟩
    · cases hr
  · cases hr
theorem am_rn_V {ci N : Nat} {T : u_T} (C : am_Cx p l R s m args meth c cc nL Ts own D cl tc A rs zs hs ad0) (hcl : cl[ci]? = some (y.cls, T, N)) (hM : am_M cl rs zs l y ws rm F) (hw : ws = Cond.code y bytes maxL ret :: ws') (hG : GoodIn Ts ws) (hlink : Cond.methodLink own idx y ∈ Ts) (hin : Cond.instanceMethod y ∈ Ts) (hse : Cond.selects y.cls y y ∈ Ts) (hini : Cond.initialized y.cls ∈ Ts)
    (hd : y.cls ≠ "java/lang/invoke/MethodHandle" ∧ y.cls ≠ "java/lang/invoke/VarHandle" ∧ (parseMethodDescriptor y.desc).map (fun d => d.parameters.length) = some n) (hR : rm.frames + 1 ≤ R.frames ∧ 8 + (maxL + 11) + rm.locals ≤ R.locals) : am_rn p l e R s m args below meth c D cl tc A nL n0 ad0 cc (3, idx) (some ci) (n + 1) F rm.cells rm.slots := by
  intro pc i ad h H locs cells slots ls as rest o1 hkey hdg J hsz hrc hn hW hF hc hs'
  have hi := am_key3 hkey
  subst hi
  have S := C.1.1
  have hts := S.2.2.2.2
  obtain ⟨k, fs, as', rfl, hk⟩ := am_rcv_ok hrc
  obtain ⟨q0, hq⟩ := am_rd J hk 0 rfl
  exact vx_runV (b := ad.1 k none) (As := as'.map (am_t ad)) S (hM D tc ad _ h H.size o1 hF) ⟨callB_of n hts hG hw rfl rfl (hts _ hini) (hts _ hlink) hd hR, hts _ hin, hts _ hse⟩ ⟨am_blind, va_recv C.1.2.1 J.2.2.2.1 hcl hq, fun U hU hW => am_pre C J _ hU hW⟩ rfl (by rw [List.length_map]; exact Nat.succ.inj hn) hsz (by rw [am_stk, List.map_cons, List.reverse_cons, List.append_assoc]; rfl) (lv_room hW) hdg ⟨hc, hs'⟩
/-- a method whose run returns: its contract without exceptions -/
theorem am_met {Pc : Array Value → State → Prop} {A1 : Nat → Prop} {n1 : Nat} {ad1 : am_A} {v : Option am_V} {h' : am_H} {mc ms : Nat} {free : Addr → Prop} (h : vx_Met l y ws rm Pc (am_Qc D cl tc A1 n1 ad1 (.inl v, h')) (am_XC D cl tc A1 n1 ad1 (.inl v, h')) mc ms free) : Met l y ws rm Pc (am_Qc D cl tc A1 n1 ad1 (.inl v, h')) mc ms free := by
  intro p e a1 a2 a3 s m args below a4 a5 a6 a7
  obtain ⟨n, o, b1, b2, b3, b4⟩ := h p e a1 a2 a3 s m args below a4 a5 a6 a7
  refine ⟨n, o, b1, b2, b3, ?_⟩
  rcases b4 with b4 | ⟨q, -, E, ce, L, ⟨⟨x, h9, ad, -, e9, -⟩, -⟩, -⟩
  · exact b4
  · cases e9
theorem am_rn_I {ci : Nat} (C : am_Cx p l R s m args meth c cc nL Ts own D cl tc A rs zs hs ad0) (hM : am_M cl rs zs l y ws rm F) (hret : ∀ as h x h', F as h ≠ some (.inr x, h')) (hy1 : y.name = "<init>") (hw : ws = Cond.code y bytes maxL none :: ws') (hG : GoodIn Ts ws) (hlink : Cond.methodLink own idx y ∈ Ts) (hin : Cond.instanceMethod y ∈ Ts) (hini : Cond.initialized y.cls ∈ Ts)
    (hd : y.cls ≠ "java/lang/invoke/MethodHandle" ∧ y.cls ≠ "java/lang/invoke/VarHandle" ∧ (parseMethodDescriptor y.desc).map (fun d => d.parameters.length) = some n) (hR : rm.frames + 1 ≤ R.frames ∧ 8 + (maxL + 11) + rm.locals ≤ R.locals) : am_rn p l e R s m args below meth c D cl tc A nL n0 ad0 cc (4, idx) (some ci) (n + 1) F rm.cells rm.slots := by
  intro pc i ad h H locs cells slots ls as rest o1 hkey hdg J hsz hrc hn hW hF hc hs'
  have hi := am_key4 hkey
  subst hi
  have S := C.1.1
  have hts := S.2.2.2.2
  obtain ⟨k, fs, as', rfl, hk⟩ := am_rcv_ok hrc
  obtain ⟨o1, h1⟩ := o1
  cases o1 with
  | inr x => exact absurd hF (hret _ _ _ _)
  | inl v =>
    intro T hT X
    obtain ⟨v', st₀, t, T', L, r1, r2, r3, r4, r5, r6, r7⟩ := (va_runI (g := F0 m pc ls (((Sum.inl (Value.ref k) :: as').reverse ++ rest).map (am_t ad))) (rest := rest.map (am_t ad)) (b := ad.1 k none) (As := as'.map (am_t ad)) S (am_met (hM D tc ad _ h H.size _ hF)) ⟨callB_of n hts hG hw rfl rfl (hts _ hini) (hts _ hlink) hd hR, hy1, hts _ hin⟩ ⟨am_blind, fun U hU hW => am_pre C J _ hU hW⟩ rfl (by rw [List.length_map]; exact Nat.succ.inj hn) hsz (by rw [am_stk, List.map_cons, List.reverse_cons, List.append_assoc]; rfl) (lv_room hW) hdg ⟨hc, hs'⟩ : va_Run p l e R s m args below meth c H locs cells slots rm.cells rm.slots _ _ _ _) T hT X
    exact Or.inl ⟨v', st₀, t, T', L, r1, r2, r3, r4, r5, r6, r7⟩
/-- Object's constructor -/
def am_fobj : am_F := fun is _ st h b K _ => if am_n is = 3 then (match st with
  | .inl (.ref _) :: r => if (r.map am_cat).sum ≤ 8 then K r h b else none
  | _ => none) else none
theorem am_fobj_ok (C : am_Cx p l R s m args meth c cc nL Ts own D cl tc A rs zs hs ad0) (hlink : Cond.methodLink own idx objectInit ∈ Ts) (hin : Cond.instanceMethod objectInit ∈ Ts) (hcode : Cond.code objectInit ⟨#[0xb1]⟩ 1 none ∈ Ts) (hR : 1 ≤ R.frames ∧ 20 ≤ R.locals) : am_op p l e R s m args below meth c D cl tc A nL n0 ad0 cc (4, idx) am_fobj := by
  intro out pc n3 i is lv st h b K KX hkey hch h1 kk kx ad H locs cells slots ls J hl hc' hs'
  have hi := am_key4 hkey
  subst hi
  obtain ⟨⟨⟨hx, hb, hml, hown, hts⟩, hK, hA, hro⟩, hzs, -⟩ := C
  unfold am_fobj at h1
  replace h1 := am_if h1
  obtain ⟨a0, h1⟩ := h1
  have a0 : n3 = 3 := a0
  subst a0
  split at h1
  · rename_i k r
    obtain ⟨hsm, h1⟩ := am_if h1
    refine W.objInit hx hb hown (hts _ hlink) (hts _ hin) (hts _ hcode) rfl (hl.1.trans hml.symm) rfl (am_chk_hd hch) hR.1 ?_ ?_
    · show 2 * _ + ((r.map (am_t ad)).map fun v => v.category).sum + 12 ≤ R.locals
      rw [am_catsum]
      show 2 * 0 + _ + 12 ≤ _
      omega
    · exact kk _ _ _ h1 ad H locs cells slots ls J hl hc' hs'
  · cases h1
/-- Math.max, Math.min -/
def am_fmx : am_F := fun is _ st h b K _ => if am_n is = 3 then (match st with
  | .inl (.int y) :: .inl (.int x) :: r => if (r.map am_cat).sum ≤ 8 then K (.inl (.int (if x < y then y else x)) :: r) h b else none
  | _ => none) else none
def am_fmn : am_F := fun is _ st h b K _ => if am_n is = 3 then (match st with
  | .inl (.int y) :: .inl (.int x) :: r => if (r.map am_cat).sum ≤ 8 then K (.inl (.int (if y < x then y else x)) :: r) h b else none
  | _ => none) else none
theorem am_fmx_ok (C : am_Cx p l R s m args meth c cc nL Ts own D cl tc A rs zs hs ad0) (hlink : Cond.methodLink own idx Lib.Math.max.name ∈ Ts) (hst : Cond.static Lib.Math.max.name ∈ Ts) (hini : Cond.initialized "java/lang/Math" ∈ Ts) (hcode : Cond.code Lib.Math.max.name Lib.Math.max.code 2 (some .int) ∈ Ts) (hR : 1 ≤ R.frames ∧ 21 ≤ R.locals) : am_op p l e R s m args below meth c D cl tc A nL n0 ad0 cc (2, idx) am_fmx := by
  intro out pc n3 i is lv st h b K KX hkey hch h1 kk kx ad H locs cells slots ls J hl hc' hs'
  have hi := am_key2 hkey
  subst hi
  obtain ⟨⟨⟨hx, hb, hml, hown, hts⟩, hK, hA, hro⟩, hzs, -⟩ := C
  unfold am_fmx at h1
  replace h1 := am_if h1
  obtain ⟨a0, h1⟩ := h1
  have a0 : n3 = 3 := a0
  subst a0
  split at h1
  · rename_i y x r
    obtain ⟨hsm, h1⟩ := am_if h1
    exact va_mmax hx hb (hml.trans hl.1.symm) hown (hts _ hlink) (hts _ hst) (hts _ hini) (hts _ hcode) hR.1 (by rw [am_catsum]; omega) (by omega) (by omega) (am_chk_hd hch) (kk _ _ _ h1 ad H locs cells slots ls J hl hc' hs')
  · cases h1
theorem am_fmn_ok (C : am_Cx p l R s m args meth c cc nL Ts own D cl tc A rs zs hs ad0) (hlink : Cond.methodLink own idx Lib.Math.min.name ∈ Ts) (hst : Cond.static Lib.Math.min.name ∈ Ts) (hini : Cond.initialized "java/lang/Math" ∈ Ts) (hcode : Cond.code Lib.Math.min.name Lib.Math.min.code 2 (some .int) ∈ Ts) (hR : 1 ≤ R.frames ∧ 21 ≤ R.locals) : am_op p l e R s m args below meth c D cl tc A nL n0 ad0 cc (2, idx) am_fmn := by
  intro out pc n3 i is lv st h b K KX hkey hch h1 kk kx ad H locs cells slots ls J hl hc' hs'
  have hi := am_key2 hkey
  subst hi
  obtain ⟨⟨⟨hx, hb, hml, hown, hts⟩, hK, hA, hro⟩, hzs, -⟩ := C
  unfold am_fmn at h1
  replace h1 := am_if h1
  obtain ⟨a0, h1⟩ := h1
  have a0 : n3 = 3 := a0
  subst a0
  split at h1
  · rename_i y x r
    obtain ⟨hsm, h1⟩ := am_if h1
    exact va_mmin hx hb (hml.trans hl.1.symm) hown (hts _ hlink) (hts _ hst) (hts _ hini) (hts _ hcode) hR.1 (by rw [am_catsum]; omega) (by omega) (by omega) (am_chk_hd hch) (kk _ _ _ h1 ad H locs cells slots ls J hl hc' hs')
  · cases h1
end AMN
end
section
/-! cells that are made -/
def am_clC (h : am_H) (c : am_C) : Bool := match c with
  | .inr (.inr (.inl (_, fs))) => fs.all (am_clV h)
  | _ => true
def am_clA (h : am_H) (lv : am_Lv) (st : List am_V) : Bool := h.all (am_clC h) && (lv.all (fun q => am_clV h q.2) && st.all (am_clV h))
def am_ex (ad : am_A) (n : Nat) (f : Option Nat → Nat) : am_A := (fun k => if k = n then f else ad.1 k, ad.2)
theorem am_ex_lt (ad : am_A) {n k : Nat} (f : Option Nat → Nat) (h : k < n) : (am_ex ad n f).1 k = ad.1 k := if_neg (Nat.ne_of_lt h)
theorem am_ex_self (ad : am_A) (n : Nat) (f : Option Nat → Nat) : (am_ex ad n f).1 n = f := if_pos rfl
theorem am_w1_ext {tc : Nat → ClassId} {ad ad' : am_A} {h : am_H} (h1 : ∀ k, k < h.length → ad'.1 k = ad.1 k) (h2 : ad'.2 = ad.2) {k : Nat} (hk : k < h.length) {c : am_C} (hc : am_clC h c = true) : am_w1 tc ad' k c = am_w1 tc ad k c := by
  obtain ⟨t, n, f⟩ | ⟨n, w, M⟩ | ⟨ci, fs⟩ | ⟨n, g⟩ := c
  · simp only [am_w1, h1 k hk]
  · simp only [am_w1, h1 k hk]
  · have hc' : fs.all (am_clV h) = true := hc
    simp only [am_w1, h1 k hk, am_cl_L hc' h1 h2]
  · simp only [am_w1, h1 k hk]
theorem am_ws_ext {tc : Nat → ClassId} {ad ad' : am_A} {h : am_H} (h1 : ∀ k, k < h.length → ad'.1 k = ad.1 k) (h2 : ad'.2 = ad.2) : ∀ (h0 : am_H) (k0 : Nat), k0 + h0.length ≤ h.length → (∀ c ∈ h0, am_clC h c = true) → am_ws tc ad' k0 h0 = am_ws tc ad k0 h0
  | [], _, _, _ => rfl
  | c :: h0, k0, hl, hc => by
    show am_w1 tc ad' k0 c ++ am_ws tc ad' (k0 + 1) h0 = am_w1 tc ad k0 c ++ am_ws tc ad (k0 + 1) h0
    rw [List.length_cons] at hl
    rw [am_w1_ext h1 h2 (by omega) (hc c List.mem_cons_self), am_ws_ext h1 h2 h0 (k0 + 1) (by omega) (fun c hc' => hc c (List.mem_cons_of_mem _ hc'))]
theorem am_ws_app {tc : Nat → ClassId} {ad : am_A} : ∀ (h0 h1 : am_H) (k0 : Nat), am_ws tc ad k0 (h0 ++ h1) = am_ws tc ad k0 h0 ++ am_ws tc ad (k0 + h0.length) h1
  | [], h1, k0 => by simp [am_ws]
  | c :: h0, h1, k0 => by
    show am_w1 tc ad k0 c ++ am_ws tc ad (k0 + 1) (h0 ++ h1) = (am_w1 tc ad k0 c ++ am_ws tc ad (k0 + 1) h0) ++ am_ws tc ad (k0 + (c :: h0).length) h1
    rw [am_ws_app h0 h1 (k0 + 1), List.append_assoc, List.length_cons, show k0 + 1 + h0.length = k0 + (h0.length + 1) by omega]
section AMA
variable {p : Program} {l : Launch} {e : Env} {R : Room} {s : State} {m : MethodId} {args : Array Value} {below : List Frame} {meth : Method} {c : Code} {D : va_G} {cl : List vw_C} {tc : Nat → ClassId} {A : Nat → Prop} {nL n0 : Nat} {ad0 : am_A} {cc : ByteArray} {own : String} {Ts : List Cond} {rs : Nat → Option (Nat × (Nat → Int32))} {zs : am_Zt} {hs : am_Hs}
/-- what is made is the heap's next cell -/
theorem am_made {ad : am_A} {h : am_H} {H H1 : Heap} {locs : List Loc} (J : am_J D cl tc A s n0 ad0 ad h H locs) {lv : am_Lv} {st : List am_V} (hcl : am_clA h lv st = true) (f : Option Nat → Nat) (c0 : am_C) {w : va_W} (hw : am_w1 tc (am_ex ad h.length f) h.length c0 = w) (hP : va_P D cl (am_ws tc ad 0 h ++ w) H1) (hD : va_D A (am_ws tc ad 0 h ++ w)) (hS : va_S A s.heap H1 locs) :
    am_J D cl tc A s n0 ad0 (am_ex ad h.length f) (h ++ [c0]) H1 locs ∧ (lv.map fun q => (q.1, am_t (am_ex ad h.length f) q.2)) = (lv.map fun q => (q.1, am_t ad q.2)) ∧ st.map (am_t (am_ex ad h.length f)) = st.map (am_t ad) := by
  simp only [am_clA, Bool.and_eq_true] at hcl
  obtain ⟨c1, c2, c3⟩ := hcl
  have e1 : ∀ k, k < h.length → (am_ex ad h.length f).1 k = ad.1 k := fun k hk => am_ex_lt ad f hk
  have e2 : (am_ex ad h.length f).2 = ad.2 := rfl
  obtain ⟨j1, j2, j3, -, -, -⟩ := J
  have e3 : am_ws tc (am_ex ad h.length f) 0 (h ++ [c0]) = am_ws tc ad 0 h ++ w := by
    rw [am_ws_app, am_ws_ext e1 e2 h 0 (by omega) (List.all_eq_true.mp c1), Nat.zero_add]
    show _ ++ (am_w1 tc _ h.length c0 ++ []) = _
    rw [List.append_nil, hw]
  refine ⟨⟨?_, fun k hk => (e1 k (Nat.lt_of_lt_of_le hk j1)).trans (j2 k hk), j3, ?_, ?_, hS⟩, am_cl_lv c2 e1 e2, am_cl_L c3 e1 e2⟩
  · rw [List.length_append]; omega
  · rw [e3]; exact hP
  · rw [e3]; exact hD
def am_nw (t N : Nat) : am_C := if t = 2 then .inr (.inr (.inr (N, fun _ => 0))) else .inl (t, N, fun _ => 0)
/-- a new array of ints (0), of booleans (1), of longs (2) -/
def am_fna (t : Nat) : am_F := fun is lv st h b K _ => if am_n is = 2 then (match st with
  | .inl (.int n) :: r => if am_clA h lv r = true then (if 1 ≤ b.1 then (bif am_in n 1000 && decide (n.toNatClampNeg ≤ b.2) then K (.inl (.ref h.length) :: r) (h ++ [am_nw t n.toNatClampNeg]) (b.1 - 1, b.2 - n.toNatClampNeg) else none) else none) else none
  | _ => none) else none
theorem am_key8 {i : Instr} {k : Nat} (h : am_key i = (8, k)) : (k = 0 ∧ i = .newarray .int) ∨ (k = 1 ∧ i = .newarray .boolean) ∨ (k = 2 ∧ i = .newarray .long) := by
  unfold am_key at h
  split at h <;> simp_all
theorem am_tcI {cA : ClassId} {ty : FieldType} {t0 : Nat} (hK : va_K D cl (am_tys tc) s) (ht : (am_tys tc)[t0]? = some (tc t0, ty)) (ho : ∀ C, ty ≠ .object C) (h : va_K D cl (am_tys tc ++ [(cA, ty)]) s) : cA = tc t0 := by
  have h1 := (hK.2 t0 _ ht).2
  have h2 := (h.2 4 (cA, ty) rfl).2
  cases ty with
  | object C => exact absurd rfl (ho C)
  | _ =>
    unfold va_RA at h1 h2
    exact Option.some.inj (h2.symm.trans h1)
theorem am_fna_ok (C : am_Cx p l R s m args meth c cc nL Ts own D cl tc A rs zs hs ad0) {t : Nat} (hty : (t = 0 ∧ Cond.arrayClass .int ∈ Ts) ∨ (t = 1 ∧ Cond.arrayClass .boolean ∈ Ts) ∨ (t = 2 ∧ Cond.arrayClass .long ∈ Ts)) : am_op p l e R s m args below meth c D cl tc A nL n0 ad0 cc (8, t) (am_fna t) := by
  intro out pc n3 i is lv st h b K KX hkey hch h1 kk kx ad H locs cells slots ls J hl hc' hs'
  obtain ⟨⟨⟨hx, hb, hml, hown, hts⟩, hK, hA, hro⟩, hzs, -⟩ := C
  unfold am_fna at h1
  replace h1 := am_if h1
  obtain ⟨a0, h1⟩ := h1
  have a0 : n3 = 2 := a0
  subst a0
  split at h1
  · rename_i n r
    obtain ⟨hcl, h1⟩ := am_if h1
    obtain ⟨hb1, h1⟩ := am_if h1
    obtain ⟨hb2, h1⟩ := am_bif h1
    simp only [Bool.and_eq_true, decide_eq_true_eq] at hb2
    obtain ⟨hn, hb2⟩ := hb2
    have hn := am_invp hn
    have hn0 : ¬ n < 0 := fun q => hn (Or.inl q)
    have hn1 : n.toNatClampNeg < 1000 := Nat.not_le.mp fun q => hn (Or.inr q)
    have hJ := J
    obtain ⟨j1, j2, j3, hP, hD, hS⟩ := J
    rcases hty with ⟨rfl, hw⟩ | ⟨rfl, hw⟩ | ⟨rfl, hw⟩ <;> rcases am_key8 hkey with ⟨q9, rfl⟩ | ⟨q9, rfl⟩ | ⟨q9, rfl⟩ <;> first | cases q9 | skip
    · refine va_newa (atype := .int) (ty := .int) (a0 := (n.toNatClampNeg, .inl (fun _ => 0))) hx hb (hts _ hw) rfl hK hP hD hS hA (fun _ => rfl) hn0 rfl (by show _ * 4 ≤ _; omega) (by omega) (by omega) (am_chk_hd hch) (fun q cA H1 hK1 hP1 hD1 hS1 => ?_)
      have e9 : cA = tc 0 := am_tcI (t0 := 0) hK rfl (fun C => by simp) hK1
      subst e9
      obtain ⟨J1, l1, l2⟩ := am_made hJ hcl (fun _ => q) (am_nw 0 n.toNatClampNeg) (by show [_] = _; rw [am_ex_self]) hP1 hD1 hS1
      have w1 := kk _ _ _ h1 _ H1 locs (cells + 1) (slots + n.toNatClampNeg) ls J1 (by rw [l1]; exact hl) (by show _ + 1 + (b.1 - 1) ≤ _; omega) (by show _ + _ + (b.2 - _) ≤ _; omega)
      rw [List.map_cons, l2] at w1
      have e8 : am_t (am_ex ad h.length fun _ => q) (.inl (.ref h.length)) = .ref q := by show Value.ref _ = _; rw [am_ex_self]
      rw [e8] at w1
      exact w1
    · refine va_newa (atype := .boolean) (ty := .boolean) (a0 := (n.toNatClampNeg, .inl (fun _ => 0))) hx hb (hts _ hw) rfl hK hP hD hS hA (fun _ => rfl) hn0 rfl (by show _ * 1 ≤ _; omega) (by omega) (by omega) (am_chk_hd hch) (fun q cA H1 hK1 hP1 hD1 hS1 => ?_)
      have e9 : cA = tc 1 := am_tcI (t0 := 1) hK rfl (fun C => by simp) hK1
      subst e9
      obtain ⟨J1, l1, l2⟩ := am_made hJ hcl (fun _ => q) (am_nw 1 n.toNatClampNeg) (by show [_] = _; rw [am_ex_self]) hP1 hD1 hS1
      have w1 := kk _ _ _ h1 _ H1 locs (cells + 1) (slots + n.toNatClampNeg) ls J1 (by rw [l1]; exact hl) (by show _ + 1 + (b.1 - 1) ≤ _; omega) (by show _ + _ + (b.2 - _) ≤ _; omega)
      rw [List.map_cons, l2] at w1
      have e8 : am_t (am_ex ad h.length fun _ => q) (.inl (.ref h.length)) = .ref q := by show Value.ref _ = _; rw [am_ex_self]
      rw [e8] at w1
      exact w1
    · refine va_newa (atype := .long) (ty := .long) (a0 := (n.toNatClampNeg, .inr (.inl (fun _ => 0)))) hx hb (hts _ hw) rfl hK hP hD hS hA (fun _ => rfl) hn0 rfl (by show _ * 8 ≤ _; omega) (by omega) (by omega) (am_chk_hd hch) (fun q cA H1 hK1 hP1 hD1 hS1 => ?_)
      have e9 : cA = tc 3 := am_tcI (t0 := 3) hK rfl (fun C => by simp) hK1
      subst e9
      obtain ⟨J1, l1, l2⟩ := am_made hJ hcl (fun _ => q) (am_nw 2 n.toNatClampNeg) (by show [_] = _; rw [am_ex_self]) hP1 hD1 hS1
      have w1 := kk _ _ _ h1 _ H1 locs (cells + 1) (slots + n.toNatClampNeg) ls J1 (by rw [l1]; exact hl) (by show _ + 1 + (b.1 - 1) ≤ _; omega) (by show _ + _ + (b.2 - _) ≤ _; omega)
      rw [List.map_cons, l2] at w1
      have e8 : am_t (am_ex ad h.length fun _ => q) (.inl (.ref h.length)) = .ref q := by show Value.ref _ = _; rw [am_ex_self]
      rw [e8] at w1
      exact w1
  · cases h1
/-- a new object -/
def am_fnew (ci N : Nat) (fs : List am_V) : am_F := fun is lv st h b K _ => if am_n is = 3 then (if am_clA h lv st = true then (if 1 ≤ b.1 then (if N ≤ b.2 then K (.inl (.ref h.length) :: st) (h ++ [.inr (.inr (.inl (ci, fs)))]) (b.1 - 1, b.2 - N) else none) else none) else none) else none
theorem am_fnew_ok (C : am_Cx p l R s m args meth c cc nL Ts own D cl tc A rs zs hs ad0) {idx ci N : Nat} {T : u_T} {Cn : String} {fs : List am_V} (fv : List Value) (hfv : ∀ ad, fs.map (am_t ad) = fv) (hc : cl[ci]? = some (Cn, T, N)) (hin : ∀ w ∈ u_ws Cn T N, w ∈ Ts) (ty : Nat → FieldType) (hty : ∀ k, k < N → parseFieldDescriptor (T k).2.2.1 = some (ty k)) (hlink : Cond.classLink own idx Cn ∈ Ts) (hinst : Cond.instantiable Cn N ∈ Ts) (hini : Cond.initialized Cn ∈ Ts) (hfs : ∀ j, j < N → defaultValue (ty j) = vp_V fv j) : am_op p l e R s m args below meth c D cl tc A nL n0 ad0 cc (5, idx) (am_fnew ci N fs) := by
  intro out pc n3 i is lv st h b K KX hkey hch h1 kk kx ad H locs cells slots ls J hl hc' hs'
  have hi := am_key5 hkey
  subst hi
  obtain ⟨⟨⟨hx, hb, hml, hown, hts⟩, hK, hA, hro⟩, hzs, -⟩ := C
  unfold am_fnew at h1
  replace h1 := am_if h1
  obtain ⟨a0, h1⟩ := h1
  have a0 : n3 = 3 := a0
  subst a0
  obtain ⟨hcl, h1⟩ := am_if h1
  obtain ⟨hb1, h1⟩ := am_if h1
  obtain ⟨hb2, h1⟩ := am_if h1
  have hJ := J
  obtain ⟨j1, j2, j3, hP, hD, hS⟩ := J
  refine va_new (D := D) (ci := ci) (fs := fv) hx hb hts hin ty hty hown (hts _ hlink) (hts _ hinst) (hts _ hini) hK hP hD hS hA hc hfs (by omega) (by omega) (am_chk_hd hch) (fun q H1 hP1 hD1 hS1 => ?_)
  obtain ⟨J1, l1, l2⟩ := am_made hJ hcl (fun _ => q) (.inr (.inr (.inl (ci, fs)))) (by show [_] = _; rw [am_ex_self, hfv]) hP1 hD1 hS1
  have w1 := kk _ _ _ h1 _ H1 locs (cells + 1) (slots + N) ls J1 (by rw [l1]; exact hl) (by show _ + 1 + (b.1 - 1) ≤ _; omega) (by show _ + _ + (b.2 - _) ≤ _; omega)
  rw [List.map_cons, l2] at w1
  have e8 : am_t (am_ex ad h.length fun _ => q) (.inl (.ref h.length)) = .ref q := by show Value.ref _ = _; rw [am_ex_self]
  rw [e8] at w1
  exact w1
/-- a new grid of ints -/
def am_fmna : am_F := fun is lv st h b K _ => match is with
  | (_, .multianewarray _ d, n3) :: _ => if d = 2 then (if n3 = 4 then (match st with
    | .inl (.int k) :: .inl (.int n) :: r => if am_clA h lv r = true then (bif am_in n 1000 && am_in k 1000 then (if 1 + n.toNatClampNeg ≤ b.1 then (if n.toNatClampNeg + n.toNatClampNeg * k.toNatClampNeg ≤ b.2 then K (.inl (.ref h.length) :: r) (h ++ [.inr (.inl (n.toNatClampNeg, k.toNatClampNeg, fun _ _ => 0))]) (b.1 - (1 + n.toNatClampNeg), b.2 - (n.toNatClampNeg + n.toNatClampNeg * k.toNatClampNeg)) else none) else none) else none) else none
    | _ => none) else none) else none
  | _ => none
theorem am_key7 {i : Instr} {k : Nat} (h : am_key i = (7, k)) : ∃ d, i = .multianewarray k d := by
  unfold am_key at h
  split at h <;> simp_all
theorem am_fmna_ok (C : am_Cx p l R s m args meth c cc nL Ts own D cl tc A rs zs hs ad0) {idx : Nat} (hlink : Cond.classLink own idx "[[I" ∈ Ts) (harr : Cond.arrayClass .int ∈ Ts) : am_op p l e R s m args below meth c D cl tc A nL n0 ad0 cc (7, idx) am_fmna := by
  intro out pc n3 i is lv st h b K KX hkey hch h1 kk kx ad H locs cells slots ls J hl hc' hs'
  obtain ⟨d, rfl⟩ := am_key7 hkey
  obtain ⟨⟨⟨hx, hb, hml, hown, hts⟩, hK, hA, hro⟩, hzs, -⟩ := C
  unfold am_fmna at h1
  dsimp only at h1
  replace h1 := am_if h1
  obtain ⟨rfl, h1⟩ := h1
  replace h1 := am_if h1
  obtain ⟨rfl, h1⟩ := h1
  split at h1
  · rename_i k n r
    obtain ⟨hcl, h1⟩ := am_if h1
    obtain ⟨hb2, h1⟩ := am_bif h1
    simp only [Bool.and_eq_true] at hb2
    obtain ⟨hn, hk⟩ := hb2
    have hn := am_invp hn
    have hk := am_invp hk
    have hn0 : ¬ n < 0 := fun q => hn (Or.inl q)
    have hn1 : n.toNatClampNeg < 1000 := Nat.not_le.mp fun q => hn (Or.inr q)
    have hk0 : ¬ k < 0 := fun q => hk (Or.inl q)
    have hk1 : k.toNatClampNeg < 1000 := Nat.not_le.mp fun q => hk (Or.inr q)
    obtain ⟨hb1, h1⟩ := am_if h1
    obtain ⟨hb3, h1⟩ := am_if h1
    have hJ := J
    obtain ⟨j1, j2, j3, hP, hD, hS⟩ := J
    have hP0 : va_P D cl (am_ws tc ad 0 h ++ va_pl [] (fun _ => (.inr (0, []) : va_E))) H := by rw [show va_pl [] (fun _ => (.inr (0, []) : va_E)) = [] from rfl, List.append_nil]; exact hP
    have hD0 : va_D A (am_ws tc ad 0 h ++ va_pl [] (fun _ => (.inr (0, []) : va_E))) := by rw [show va_pl [] (fun _ => (.inr (0, []) : va_E)) = [] from rfl, List.append_nil]; exact hD
    refine va_mna (X := am_ws tc ad 0 h) (L := []) (f := fun _ => .inr (0, [])) (ty := .int) (cy := tc 0) (N' := n.toNatClampNeg) (K' := k.toNatClampNeg) (z := (k.toNatClampNeg, .inl (fun _ => 0))) hx hb hown (by rw [show ("[" ++ (FieldType.array FieldType.int).toString) = "[[I" by decide +kernel]; exact hts _ hlink) hzs.2.1 (hts _ harr) (by rw [show (FieldType.array FieldType.int).toString = "[" ++ FieldType.int.toString by decide +kernel]; exact (hK.2 0 _ rfl).2) hK hP0 hD0 hS hA hn0 hk0 rfl rfl (by omega) (by show _ * 4 ≤ _; omega) (by omega) rfl rfl (by omega) (by omega) (fun _ => arrV_new _ _ _) (am_chk_hd hch) (fun q r1 cA H1 hr1 hr2 hK1 hP1 hD1 hS1 => ?_)
    have e9 : cA = tc 2 := am_tcI (t0 := 2) hK rfl (fun C => by simp) hK1
    subst e9
    have ew : am_ws tc ad 0 h ++ [(q, (.inl (tc 2, n.toNatClampNeg, .inr (.inr (.inr (.inr (fun i => if i < n.toNatClampNeg then some (r1 i) else none))))) : va_E))] ++ va_pl ([] ++ (List.range n.toNatClampNeg).map r1) (vr_up (fun _ => .inr (0, [])) ((List.range n.toNatClampNeg).map r1) (.inl (tc 0, k.toNatClampNeg, .inl (fun _ => 0)))) = am_ws tc ad 0 h ++ ((q, (.inl (tc 2, n.toNatClampNeg, .inr (.inr (.inr (.inr (fun i => if i < n.toNatClampNeg then some (r1 i) else none))))) : va_E)) :: (List.range n.toNatClampNeg).map (fun i => (r1 i, (.inl (tc 0, k.toNatClampNeg, .inl (fun _ => 0)) : va_E)))) := by
      rw [List.append_assoc, List.nil_append]
      congr 1
      show _ :: va_pl _ _ = _ :: _
      congr 1
      unfold va_pl
      rw [List.map_map]
      apply List.map_congr_left
      intro a ha
      show (r1 a, vr_up _ _ _ (r1 a)) = _
      rw [vr_up_in (List.mem_map_of_mem ha)]
    rw [ew] at hP1 hD1
    obtain ⟨J1, l1, l2⟩ := am_made hJ hcl (fun o => match o with | none => q | some i => r1 i) (.inr (.inl (n.toNatClampNeg, k.toNatClampNeg, fun _ _ => 0))) (by simp only [am_w1, am_ex_self]) hP1 hD1 hS1
    have w1 := kk _ _ _ h1 _ H1 locs (cells + 1 + n.toNatClampNeg) (slots + n.toNatClampNeg + n.toNatClampNeg * k.toNatClampNeg) ls J1 (by rw [l1]; exact hl) (by show _ + 1 + _ + (b.1 - _) ≤ _; omega) (by show _ + _ + _ + (b.2 - _) ≤ _; omega)
    rw [List.map_cons, l2] at w1
    have e8 : am_t (am_ex ad h.length fun o => match o with | none => q | some i => r1 i) (.inl (.ref h.length)) = .ref q := by show Value.ref _ = _; rw [am_ex_self]
    rw [e8] at w1
    exact w1
  · cases h1
/-- System.arraycopy of ints -/
def am_fcpy : am_F := fun is _ st h b K _ => if am_n is = 3 then (match st with
  | .inl (.int n) :: .inl (.int dp) :: .inl (.ref k1) :: .inl (.int sp) :: .inl (.ref k0) :: r => (match h[k0]?, h[k1]? with
    | some (.inl (t0, n0, f)), some (.inl (t1, n1, g)) => if t0 = 0 then (if t1 = 0 then (if (r.map am_cat).sum ≤ 8 then (bif !decide (sp < 0) && (!decide (dp < 0) && (!decide (n < 0) && (decide (sp.toNatClampNeg + n.toNatClampNeg ≤ n0) && decide (dp.toNatClampNeg + n.toNatClampNeg ≤ n1)))) then K r (h.set k1 (.inl (t1, n1, va_cpy f g sp.toNatClampNeg dp.toNatClampNeg n.toNatClampNeg))) b else none) else none) else none) else none
    | _, _ => none)
  | _ => none) else none
theorem am_fcpy_ok (C : am_Cx p l R s m args meth c cc nL Ts own D cl tc A rs zs hs ad0) {idx : Nat} (hlink : Cond.methodLink own idx arraycopyName ∈ Ts) (hnat : Cond.native arraycopyName ∈ Ts) (hst : Cond.static arraycopyName ∈ Ts) (hini : Cond.initialized "java/lang/System" ∈ Ts) (hR : 1 ≤ R.frames ∧ 8 + (nativeFrameWords "java/lang/System" "arraycopy" 5 + 11) ≤ R.locals) : am_op p l e R s m args below meth c D cl tc A nL n0 ad0 cc (2, idx) am_fcpy := by
  intro out pc n3 i is lv st h b K KX hkey hch h1 kk kx ad H locs cells slots ls J hl hc' hs'
  have hi := am_key2 hkey
  subst hi
  obtain ⟨⟨⟨hx, hb, hml, hown, hts⟩, hK, hA, hro⟩, hzs, -⟩ := C
  unfold am_fcpy at h1
  replace h1 := am_if h1
  obtain ⟨a0, h1⟩ := h1
  have a0 : n3 = 3 := a0
  subst a0
  split at h1
  · split at h1
    · rename_i hk0 hk1
      replace h1 := am_if h1
      obtain ⟨rfl, h1⟩ := h1
      replace h1 := am_if h1
      obtain ⟨rfl, h1⟩ := h1
      obtain ⟨hsm, h1⟩ := am_if h1
      obtain ⟨hq, h1⟩ := am_bif h1
      simp only [Bool.and_eq_true, Bool.not_eq_true', decide_eq_true_eq, decide_eq_false_iff_not] at hq
      obtain ⟨q1, q2, q3, q4, q5⟩ := hq
      obtain ⟨p0, g0⟩ := am_rd J hk0 0 rfl
      obtain ⟨p1, g1, g2⟩ := am_wrA J hk1 _
      obtain ⟨j1, j2, j3, hP, hD, hS⟩ := J
      exact va_copyi (ty := .int) hx hb (hml.trans hl.1.symm) hown (hts _ hlink) (hts _ hnat) (hts _ hst) (hts _ hini) hK hP hD hS p0 p1 0 0 g0 g1 rfl rfl rfl q1 q2 q3 q4 q5 (fun _ _ => rfl) hR.1 (by rw [am_catsum]; omega) (am_chk_hd hch) (fun H1 locs1 hP1 hD1 hS1 => kk _ _ _ h1 ad H1 locs1 cells slots ls (g2 H1 locs1 hP1 hD1 hS1) hl hc' hs')
    · cases h1
  · cases h1
end AMA
end
section
/-! a method's contract is the run of its code -/
/-- the run of a method: its code, its pool, its handlers -/
def am_fn (T : am_I) (X : am_X) (nL : Nat) (rt : Option FieldType) (rs : Nat → Option (Nat × (Nat → Int32))) (hs : am_Hs) (N : Nat) (b : Nat × Nat) : List am_V → am_H → Option am_O := fun as h => if (as.map am_cat).sum ≤ nL then am_lp T X nL rt rs hs N 0 (am_args 0 as) [] h b else none
theorem am_args_t (ad : am_A) : ∀ (as : List am_V) (i : Nat), (am_args i as).map (fun q => (q.1, am_t ad q.2)) = lv_args i (as.map (am_t ad))
  | [], _ => rfl
  | v :: as, i => by
    show (i, am_t ad v) :: (am_args _ as).map _ = (i, am_t ad v) :: lv_args _ (as.map (am_t ad))
    rw [am_args_t ad as, am_t_cat]
theorem am_sl_len : ∀ (vs : List Value), (lg_sl vs).length = (vs.map fun v => v.category).sum
  | [] => rfl
  | v :: vs => by
    show ((if v.category = 2 then [Slot.val v, Slot.second] else [Slot.val v]) ++ lg_sl vs).length = v.category + (vs.map fun v => v.category).sum
    rw [List.length_append, am_sl_len vs]
    rcases lv_cat v with h | h
    · rw [if_neg (by omega), h]; rfl
    · rw [if_pos h, h]; rfl
/-- what a class's pool must stand for in a method's body -/
def am_ok (cl : List vw_C) (rs : Nat → Option (Nat × (Nat → Int32))) (zs : am_Zt) (l : Launch) (y : MethodName) (cc : ByteArray) (nL : Nat) (Ts : List Cond) (rm : Room) (hs : am_Hs) (X : am_X) : Prop :=
  ∀ (p : Program) (e : Env) (s : State) (m : MethodId) (args : Array Value) (below : List Frame) (meth : Method) (c : Code) (D : va_G) (tc : Nat → ClassId) (A : Nat → Prop) (n0 : Nat) (ad0 : am_A), am_Cx p l rm s m args meth c cc nL Ts y.cls D cl tc A rs zs hs ad0 → meth.name = y.name → ∀ key φ, X.lookup key = some φ → am_op p l e rm s m args below meth c D cl tc A nL n0 ad0 cc key φ
theorem am_body {cl : List vw_C} {rs : Nat → Option (Nat × (Nat → Int32))} {zs : am_Zt} {l : Launch} {y : MethodName} {cc : ByteArray} {nL : Nat} {rt : Option FieldType} {ws : List Cond} {rm : Room} {hs : am_Hs} {X : am_X} {T : am_I} {N : Nat} (hl : l.stackTraces = false) (hT : am_chk cc T = true) (hX : am_ok cl rs zs l y cc nL ws rm hs X) (hhk : ∀ (s : State) (args : Array Value) (ra : Nat → Nat) (A : Nat → Prop), (∀ w ∈ ws, w.before args s = true) → am_zs zs ra A s s.heap → am_hk s args y.cls hs)
    {D : va_G} {tc : Nat → ClassId} {ad : am_A} {as : List am_V} {h : am_H} {sz : Nat} {out : am_O} (hF : am_fn T X nL rt rs hs N (rm.cells, rm.slots) as h = some out) {p : Program} {e : Env} {s : State} {m : MethodId} {args : Array Value} {below : List Frame} {meth : Method} {c : Code} {s₁ : State} (B : BodyLoose p l y (headSpec ws rm) cc nL rt e s m args below meth c s₁) (hml : c.maxLocals = nL) (htb : c.exceptionTable.toList = tableOf (am_tb hs)) (hv : am_Pc D cl tc rs zs ad as h sz args s) :
    W p l e (headSpec ws rm).room s m args below meth c s.heap [] 0 0 (vx_MQ below (am_Qc D cl tc (va_A (am_ws tc ad 0 h) sz) h.length ad out) (am_XC D cl tc (va_A (am_ws tc ad 0 h) sz) h.length ad out) args s rm.cells rm.slots (va_A (am_ws tc ad 0 h) sz)) (entryFrame m args nL) := by
  obtain ⟨rfl, hsz, hP, hK, hD0, hro, hz⟩ := hv
  have hx := B.exec
  have hb := B.bytes
  have hr := B.returns
  have hts := atoms_spec (ws := ws) B.pre
  have hown : s.vm.findClass y.cls = some m.cls := findClass_of_methodNamed B.named
  have hlocks := B.notSynchronized
  have hin : meth.name = y.name := (name_of_methodNamed B.named B.method).1
  subst hsz
  have hA : ∀ q, s.heap.size ≤ q → va_A (am_ws tc ad 0 h) s.heap.size q := fun q h => Or.inr h
  have C : am_Cx p l rm s m (as.map (am_t ad)).toArray meth c cc nL ws y.cls D cl tc (va_A (am_ws tc ad 0 h) s.heap.size) rs zs hs ad := ⟨⟨⟨hx, hb, hml, hown, hts⟩, hK, hA, hro⟩, hz, hlocks, htb, hl⟩
  unfold am_fn at hF
  obtain ⟨hlen, hF⟩ := am_if hF
  have hlv := lv_entry (as.map (am_t ad)) (n := nL) (by rw [am_sl_len, am_catsum]; exact hlen)
  rw [lg_entry_eq]
  exact am_lp_ok C.1 hr hlocks htb (hhk s _ _ _ hts hz) hT (hX p e s m _ below meth c D tc _ h.length ad C hin) N 0 (am_args 0 as) [] h (rm.cells, rm.slots) hF ad s.heap [] 0 0 _ ⟨Nat.le_refl _, fun _ _ => rfl, rfl, hP, hD0.self, va_S.rf⟩ (by rw [am_args_t]; exact hlv) (by show 0 + _ ≤ _; exact Nat.le_of_eq (Nat.zero_add _)) (by show 0 + _ ≤ _; exact Nat.le_of_eq (Nat.zero_add _))
theorem am_meth {cl : List vw_C} {rs : Nat → Option (Nat × (Nat → Int32))} {zs : am_Zt} {l : Launch} {y : MethodName} {cc : ByteArray} {nL : Nat} {rt : Option FieldType} {ws' : List Cond} {rm : Room} {X : am_X} {T : am_I} {N : Nat} (hl : l.stackTraces = false) (hy : plainName y.cls = true) (hT : am_chk cc T = true) (hX : am_ok cl rs zs l y cc nL (Cond.code y cc nL rt :: ws') rm [] X) : am_M cl rs zs l y (Cond.code y cc nL rt :: ws') rm (am_fn T X nL rt rs [] N (rm.cells, rm.slots)) := by
  intro D tc ad as h sz out hF
  refine vx_ofW (cc := cc) (maxL := nL) (ret := rt) hy rfl ?_
  intro p e s m args below meth c s₁ B hml hnt hv
  refine am_body hl hT hX (fun _ _ _ _ _ _ q hq => by cases hq) hF B hml ?_ hv
  cases he : c.exceptionTable.toList with
  | nil => rfl
  | cons x r => exact (hnt x (by rw [he]; exact List.mem_cons_self)).elim
theorem am_methH {cl : List vw_C} {rs : Nat → Option (Nat × (Nat → Int32))} {zs : am_Zt} {l : Launch} {y : MethodName} {cc : ByteArray} {nL : Nat} {rt : Option FieldType} {ws' : List Cond} {rm : Room} {hs : am_Hs} {X : am_X} {T : am_I} {N : Nat} (hl : l.stackTraces = false) (hy : plainName y.cls = true) (hT : am_chk cc T = true) (hX : am_ok cl rs zs l y cc nL (Cond.codeWith y cc nL rt (am_tb hs) :: ws') rm hs X) (hk : ∀ q ∈ hs, q.2.2.2.1 ≠ 0 ∧ q.2.2.2.2 < 5 ∧ Cond.classLink y.cls q.2.2.2.1 (am_xn q.2.2.2.2) ∈ ws' ∧ Cond.castable (am_xn q.2.2.2.2) (am_xn q.2.2.2.2) ∈ zs.2) : am_M cl rs zs l y (Cond.codeWith y cc nL rt (am_tb hs) :: ws') rm (am_fn T X nL rt rs hs N (rm.cells, rm.slots)) := by
  intro D tc ad as h sz out hF
  refine vx_ofWH (cc := cc) (maxL := nL) (ret := rt) (hh := am_tb hs) hy rfl ?_
  intro p e s m args below meth c s₁ B hml hv
  refine am_body hl hT hX (fun s' args' ra A' hts hz q hq => ?_) hF B hml (vx_table (x := y) B (atoms_spec (ws := Cond.codeWith y cc nL rt (am_tb hs) :: ws') B.pre _ List.mem_cons_self)) hv
  obtain ⟨k1, k2, k3, k4⟩ := hk q hq
  exact ⟨k1, hts _ (List.mem_cons_of_mem _ k3), va_Nw.use rfl (hz.2.2.1 _ k4).2, fun x h1 h2 => hz.1 x _ h1 k2 h2⟩
end
