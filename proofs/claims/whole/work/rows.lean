section
-- ===== PART A: goes FIRST, ahead of the names: the tables' words, and 'selects' of the private methods out of them =====
/-- a private method of a class that the tables say can be made, by its rows of tables_1 -/
def lw_okq (q : MethodName × Nat) : Prop := (q.1.cls ≠ "java/lang/invoke/MethodHandle" ∧ q.1.cls ≠ "java/lang/invoke/VarHandle") ∧ Cond.instantiable q.1.cls q.2 ∈ tables_1 ∧ Cond.privateMethod q.1 ∈ tables_1 ∧ Cond.instanceMethod q.1 ∈ tables_1
theorem lw_p0 : lw_okq (⟨"PagingKernel", "startProgram", "(II)V"⟩, 8) := ⟨⟨by decide +kernel, by decide +kernel⟩, List.mem_of_getElem? (i := 16) (by decide +kernel), List.mem_of_getElem? (i := 82) (by decide +kernel), List.mem_of_getElem? (i := 83) (by decide +kernel)⟩
theorem lw_p1 : lw_okq (⟨"PagingKernel", "leavePages", "(III)V"⟩, 8) := ⟨⟨by decide +kernel, by decide +kernel⟩, List.mem_of_getElem? (i := 16) (by decide +kernel), List.mem_of_getElem? (i := 93) (by decide +kernel), List.mem_of_getElem? (i := 94) (by decide +kernel)⟩
theorem lw_p2 : lw_okq (⟨"PagingKernel$Memory", "vacate", "(I)V"⟩, 10) := ⟨⟨by decide +kernel, by decide +kernel⟩, List.mem_of_getElem? (i := 26) (by decide +kernel), List.mem_of_getElem? (i := 101) (by decide +kernel), List.mem_of_getElem? (i := 102) (by decide +kernel)⟩
theorem lw_p3 : lw_okq (⟨"PagingKernel$Memory", "isIn", "(I)Z"⟩, 10) := ⟨⟨by decide +kernel, by decide +kernel⟩, List.mem_of_getElem? (i := 26) (by decide +kernel), List.mem_of_getElem? (i := 105) (by decide +kernel), List.mem_of_getElem? (i := 106) (by decide +kernel)⟩
theorem lw_p4 : lw_okq (⟨"PagingKernel", "addPages", "(III)V"⟩, 8) := ⟨⟨by decide +kernel, by decide +kernel⟩, List.mem_of_getElem? (i := 16) (by decide +kernel), List.mem_of_getElem? (i := 111) (by decide +kernel), List.mem_of_getElem? (i := 112) (by decide +kernel)⟩
theorem lw_p5 : lw_okq (⟨"java/lang/Throwable", "fillInStackTrace", "(I)Ljava/lang/Throwable;"⟩, 6) := ⟨⟨by decide +kernel, by decide +kernel⟩, List.mem_of_getElem? (i := 203) (by decide +kernel), List.mem_of_getElem? (i := 201) (by decide +kernel), List.mem_of_getElem? (i := 202) (by decide +kernel)⟩
theorem lw_p6 : lw_okq (⟨"PagingKernel", "checkRunning", "(I)V"⟩, 8) := ⟨⟨by decide +kernel, by decide +kernel⟩, List.mem_of_getElem? (i := 16) (by decide +kernel), List.mem_of_getElem? (i := 228) (by decide +kernel), List.mem_of_getElem? (i := 229) (by decide +kernel)⟩
theorem lw_p7 : lw_okq (⟨"PagingKernel", "leastFreeProcess", "()I"⟩, 8) := ⟨⟨by decide +kernel, by decide +kernel⟩, List.mem_of_getElem? (i := 16) (by decide +kernel), List.mem_of_getElem? (i := 247) (by decide +kernel), List.mem_of_getElem? (i := 248) (by decide +kernel)⟩
theorem lw_p8 : lw_okq (⟨"PagingKernel", "sharePages", "(II)V"⟩, 8) := ⟨⟨by decide +kernel, by decide +kernel⟩, List.mem_of_getElem? (i := 16) (by decide +kernel), List.mem_of_getElem? (i := 266) (by decide +kernel), List.mem_of_getElem? (i := 267) (by decide +kernel)⟩
theorem lw_p9 : lw_okq (⟨"PagingKernel", "orphansToFirst", "(I)I"⟩, 8) := ⟨⟨by decide +kernel, by decide +kernel⟩, List.mem_of_getElem? (i := 16) (by decide +kernel), List.mem_of_getElem? (i := 284) (by decide +kernel), List.mem_of_getElem? (i := 285) (by decide +kernel)⟩
theorem lw_p10 : lw_okq (⟨"PagingKernel", "isParent", "(I)Z"⟩, 8) := ⟨⟨by decide +kernel, by decide +kernel⟩, List.mem_of_getElem? (i := 16) (by decide +kernel), List.mem_of_getElem? (i := 296) (by decide +kernel), List.mem_of_getElem? (i := 297) (by decide +kernel)⟩
theorem lw_p11 : lw_okq (⟨"PagingKernel", "leastDeadChild", "(I)I"⟩, 8) := ⟨⟨by decide +kernel, by decide +kernel⟩, List.mem_of_getElem? (i := 16) (by decide +kernel), List.mem_of_getElem? (i := 300) (by decide +kernel), List.mem_of_getElem? (i := 301) (by decide +kernel)⟩
theorem lw_p12 : lw_okq (⟨"PagingKernel", "checkAddress", "(II)V"⟩, 8) := ⟨⟨by decide +kernel, by decide +kernel⟩, List.mem_of_getElem? (i := 16) (by decide +kernel), List.mem_of_getElem? (i := 334) (by decide +kernel), List.mem_of_getElem? (i := 335) (by decide +kernel)⟩
theorem lw_p13 : lw_okq (⟨"PagingKernel", "growStackTo", "(II)V"⟩, 8) := ⟨⟨by decide +kernel, by decide +kernel⟩, List.mem_of_getElem? (i := 16) (by decide +kernel), List.mem_of_getElem? (i := 338) (by decide +kernel), List.mem_of_getElem? (i := 339) (by decide +kernel)⟩
theorem lw_p14 : lw_okq (⟨"PagingKernel", "pageThere", "(II)I"⟩, 8) := ⟨⟨by decide +kernel, by decide +kernel⟩, List.mem_of_getElem? (i := 16) (by decide +kernel), List.mem_of_getElem? (i := 342) (by decide +kernel), List.mem_of_getElem? (i := 343) (by decide +kernel)⟩
theorem lw_p15 : lw_okq (⟨"PagingKernel$Memory", "getFrame", "()I"⟩, 10) := ⟨⟨by decide +kernel, by decide +kernel⟩, List.mem_of_getElem? (i := 26) (by decide +kernel), List.mem_of_getElem? (i := 365) (by decide +kernel), List.mem_of_getElem? (i := 366) (by decide +kernel)⟩
def lw_privs_1 : List (MethodName × Nat) := [(⟨"PagingKernel", "startProgram", "(II)V"⟩, 8), (⟨"PagingKernel", "leavePages", "(III)V"⟩, 8), (⟨"PagingKernel$Memory", "vacate", "(I)V"⟩, 10), (⟨"PagingKernel$Memory", "isIn", "(I)Z"⟩, 10), (⟨"PagingKernel", "addPages", "(III)V"⟩, 8), (⟨"java/lang/Throwable", "fillInStackTrace", "(I)Ljava/lang/Throwable;"⟩, 6), (⟨"PagingKernel", "checkRunning", "(I)V"⟩, 8), (⟨"PagingKernel", "leastFreeProcess", "()I"⟩, 8), (⟨"PagingKernel", "sharePages", "(II)V"⟩, 8), (⟨"PagingKernel", "orphansToFirst", "(I)I"⟩, 8), (⟨"PagingKernel", "isParent", "(I)Z"⟩, 8), (⟨"PagingKernel", "leastDeadChild", "(I)I"⟩, 8), (⟨"PagingKernel", "checkAddress", "(II)V"⟩, 8), (⟨"PagingKernel", "growStackTo", "(II)V"⟩, 8), (⟨"PagingKernel", "pageThere", "(II)I"⟩, 8), (⟨"PagingKernel$Memory", "getFrame", "()I"⟩, 10)]
theorem lw_r1 : ∀ q ∈ lw_privs_1, lw_okq q := List.forall_mem_cons.mpr ⟨lw_p0, List.forall_mem_cons.mpr ⟨lw_p1, List.forall_mem_cons.mpr ⟨lw_p2, List.forall_mem_cons.mpr ⟨lw_p3, List.forall_mem_cons.mpr ⟨lw_p4, List.forall_mem_cons.mpr ⟨lw_p5, List.forall_mem_cons.mpr ⟨lw_p6, List.forall_mem_cons.mpr ⟨lw_p7, List.forall_mem_cons.mpr ⟨lw_p8, List.forall_mem_cons.mpr ⟨lw_p9, List.forall_mem_cons.mpr ⟨lw_p10, List.forall_mem_cons.mpr ⟨lw_p11, List.forall_mem_cons.mpr ⟨lw_p12, List.forall_mem_cons.mpr ⟨lw_p13, List.forall_mem_cons.mpr ⟨lw_p14, List.forall_mem_cons.mpr ⟨lw_p15, fun _ h => absurd h List.not_mem_nil⟩⟩⟩⟩⟩⟩⟩⟩⟩⟩⟩⟩⟩⟩⟩⟩
theorem lw_p16 : lw_okq (⟨"PagingKernel$Memory", "canGo", "(I)Z"⟩, 10) := ⟨⟨by decide +kernel, by decide +kernel⟩, List.mem_of_getElem? (i := 26) (by decide +kernel), List.mem_of_getElem? (i := 376) (by decide +kernel), List.mem_of_getElem? (i := 377) (by decide +kernel)⟩
theorem lw_p17 : lw_okq (⟨"PagingKernel$Memory", "sendOut", "(I)V"⟩, 10) := ⟨⟨by decide +kernel, by decide +kernel⟩, List.mem_of_getElem? (i := 26) (by decide +kernel), List.mem_of_getElem? (i := 383) (by decide +kernel), List.mem_of_getElem? (i := 384) (by decide +kernel)⟩
theorem lw_p18 : lw_okq (⟨"PagingKernel$Memory", "settle", "(II)V"⟩, 10) := ⟨⟨by decide +kernel, by decide +kernel⟩, List.mem_of_getElem? (i := 26) (by decide +kernel), List.mem_of_getElem? (i := 387) (by decide +kernel), List.mem_of_getElem? (i := 388) (by decide +kernel)⟩
theorem lw_p19 : lw_okq (⟨"PagingKernelModel", "begin", "(II)V"⟩, 20) := ⟨⟨by decide +kernel, by decide +kernel⟩, List.mem_of_getElem? (i := 486) (by decide +kernel), List.mem_of_getElem? (i := 492) (by decide +kernel), List.mem_of_getElem? (i := 493) (by decide +kernel)⟩
theorem lw_p20 : lw_okq (⟨"PagingKernelModel", "newPage", "()I"⟩, 20) := ⟨⟨by decide +kernel, by decide +kernel⟩, List.mem_of_getElem? (i := 486) (by decide +kernel), List.mem_of_getElem? (i := 496) (by decide +kernel), List.mem_of_getElem? (i := 497) (by decide +kernel)⟩
theorem lw_p21 : lw_okq (⟨"PagingKernelModel", "out", "(II)Z"⟩, 20) := ⟨⟨by decide +kernel, by decide +kernel⟩, List.mem_of_getElem? (i := 486) (by decide +kernel), List.mem_of_getElem? (i := 569) (by decide +kernel), List.mem_of_getElem? (i := 570) (by decide +kernel)⟩
theorem lw_p22 : lw_okq (⟨"PagingKernelModel", "fail", "(I)I"⟩, 20) := ⟨⟨by decide +kernel, by decide +kernel⟩, List.mem_of_getElem? (i := 486) (by decide +kernel), List.mem_of_getElem? (i := 573) (by decide +kernel), List.mem_of_getElem? (i := 574) (by decide +kernel)⟩
theorem lw_p23 : lw_okq (⟨"PagingKernelModel", "notRunning", "(I)Z"⟩, 20) := ⟨⟨by decide +kernel, by decide +kernel⟩, List.mem_of_getElem? (i := 486) (by decide +kernel), List.mem_of_getElem? (i := 577) (by decide +kernel), List.mem_of_getElem? (i := 578) (by decide +kernel)⟩
theorem lw_p24 : lw_okq (⟨"PagingKernelModel", "drop", "(I)V"⟩, 20) := ⟨⟨by decide +kernel, by decide +kernel⟩, List.mem_of_getElem? (i := 486) (by decide +kernel), List.mem_of_getElem? (i := 585) (by decide +kernel), List.mem_of_getElem? (i := 586) (by decide +kernel)⟩
theorem lw_p25 : lw_okq (⟨"PagingKernelModel", "clean", "()V"⟩, 20) := ⟨⟨by decide +kernel, by decide +kernel⟩, List.mem_of_getElem? (i := 486) (by decide +kernel), List.mem_of_getElem? (i := 589) (by decide +kernel), List.mem_of_getElem? (i := 590) (by decide +kernel)⟩
theorem lw_p26 : lw_okq (⟨"PagingKernelModel", "owners", "(I)I"⟩, 20) := ⟨⟨by decide +kernel, by decide +kernel⟩, List.mem_of_getElem? (i := 486) (by decide +kernel), List.mem_of_getElem? (i := 593) (by decide +kernel), List.mem_of_getElem? (i := 594) (by decide +kernel)⟩
theorem lw_p27 : lw_okq (⟨"PagingKernelModel", "leave", "(I)V"⟩, 20) := ⟨⟨by decide +kernel, by decide +kernel⟩, List.mem_of_getElem? (i := 486) (by decide +kernel), List.mem_of_getElem? (i := 597) (by decide +kernel), List.mem_of_getElem? (i := 598) (by decide +kernel)⟩
theorem lw_p28 : lw_okq (⟨"PagingKernelModel", "growStack", "(II)V"⟩, 20) := ⟨⟨by decide +kernel, by decide +kernel⟩, List.mem_of_getElem? (i := 486) (by decide +kernel), List.mem_of_getElem? (i := 617) (by decide +kernel), List.mem_of_getElem? (i := 618) (by decide +kernel)⟩
theorem lw_p29 : lw_okq (⟨"PagingKernelModel", "pageOf", "(II)I"⟩, 20) := ⟨⟨by decide +kernel, by decide +kernel⟩, List.mem_of_getElem? (i := 486) (by decide +kernel), List.mem_of_getElem? (i := 621) (by decide +kernel), List.mem_of_getElem? (i := 622) (by decide +kernel)⟩
theorem lw_p30 : lw_okq (⟨"PagingKernelModel", "touch", "(I)Z"⟩, 20) := ⟨⟨by decide +kernel, by decide +kernel⟩, List.mem_of_getElem? (i := 486) (by decide +kernel), List.mem_of_getElem? (i := 625) (by decide +kernel), List.mem_of_getElem? (i := 626) (by decide +kernel)⟩
theorem lw_p31 : lw_okq (⟨"PagingKernelModel", "getFrame", "()I"⟩, 20) := ⟨⟨by decide +kernel, by decide +kernel⟩, List.mem_of_getElem? (i := 486) (by decide +kernel), List.mem_of_getElem? (i := 629) (by decide +kernel), List.mem_of_getElem? (i := 630) (by decide +kernel)⟩
def lw_privs_2 : List (MethodName × Nat) := [(⟨"PagingKernel$Memory", "canGo", "(I)Z"⟩, 10), (⟨"PagingKernel$Memory", "sendOut", "(I)V"⟩, 10), (⟨"PagingKernel$Memory", "settle", "(II)V"⟩, 10), (⟨"PagingKernelModel", "begin", "(II)V"⟩, 20), (⟨"PagingKernelModel", "newPage", "()I"⟩, 20), (⟨"PagingKernelModel", "out", "(II)Z"⟩, 20), (⟨"PagingKernelModel", "fail", "(I)I"⟩, 20), (⟨"PagingKernelModel", "notRunning", "(I)Z"⟩, 20), (⟨"PagingKernelModel", "drop", "(I)V"⟩, 20), (⟨"PagingKernelModel", "clean", "()V"⟩, 20), (⟨"PagingKernelModel", "owners", "(I)I"⟩, 20), (⟨"PagingKernelModel", "leave", "(I)V"⟩, 20), (⟨"PagingKernelModel", "growStack", "(II)V"⟩, 20), (⟨"PagingKernelModel", "pageOf", "(II)I"⟩, 20), (⟨"PagingKernelModel", "touch", "(I)Z"⟩, 20), (⟨"PagingKernelModel", "getFrame", "()I"⟩, 20)]
theorem lw_r2 : ∀ q ∈ lw_privs_2, lw_okq q := List.forall_mem_cons.mpr ⟨lw_p16, List.forall_mem_cons.mpr ⟨lw_p17, List.forall_mem_cons.mpr ⟨lw_p18, List.forall_mem_cons.mpr ⟨lw_p19, List.forall_mem_cons.mpr ⟨lw_p20, List.forall_mem_cons.mpr ⟨lw_p21, List.forall_mem_cons.mpr ⟨lw_p22, List.forall_mem_cons.mpr ⟨lw_p23, List.forall_mem_cons.mpr ⟨lw_p24, List.forall_mem_cons.mpr ⟨lw_p25, List.forall_mem_cons.mpr ⟨lw_p26, List.forall_mem_cons.mpr ⟨lw_p27, List.forall_mem_cons.mpr ⟨lw_p28, List.forall_mem_cons.mpr ⟨lw_p29, List.forall_mem_cons.mpr ⟨lw_p30, List.forall_mem_cons.mpr ⟨lw_p31, fun _ h => absurd h List.not_mem_nil⟩⟩⟩⟩⟩⟩⟩⟩⟩⟩⟩⟩⟩⟩⟩⟩
theorem lw_p32 : lw_okq (⟨"PagingKernelModel", "look", "()Z"⟩, 20) := ⟨⟨by decide +kernel, by decide +kernel⟩, List.mem_of_getElem? (i := 486) (by decide +kernel), List.mem_of_getElem? (i := 633) (by decide +kernel), List.mem_of_getElem? (i := 634) (by decide +kernel)⟩
theorem lw_p33 : lw_okq (⟨"PagingKernelModel", "canGo", "(I)Z"⟩, 20) := ⟨⟨by decide +kernel, by decide +kernel⟩, List.mem_of_getElem? (i := 486) (by decide +kernel), List.mem_of_getElem? (i := 637) (by decide +kernel), List.mem_of_getElem? (i := 638) (by decide +kernel)⟩
theorem lw_p34 : lw_okq (⟨"PagingKernelModel", "freeSlot", "()I"⟩, 20) := ⟨⟨by decide +kernel, by decide +kernel⟩, List.mem_of_getElem? (i := 486) (by decide +kernel), List.mem_of_getElem? (i := 641) (by decide +kernel), List.mem_of_getElem? (i := 642) (by decide +kernel)⟩
theorem lw_p35 : lw_okq (⟨"PagingKernelModel", "sendOut", "(I)V"⟩, 20) := ⟨⟨by decide +kernel, by decide +kernel⟩, List.mem_of_getElem? (i := 486) (by decide +kernel), List.mem_of_getElem? (i := 645) (by decide +kernel), List.mem_of_getElem? (i := 646) (by decide +kernel)⟩
theorem lw_p36 : lw_okq (⟨"PagingKernelModel", "putIn", "(II)V"⟩, 20) := ⟨⟨by decide +kernel, by decide +kernel⟩, List.mem_of_getElem? (i := 486) (by decide +kernel), List.mem_of_getElem? (i := 649) (by decide +kernel), List.mem_of_getElem? (i := 650) (by decide +kernel)⟩
theorem lw_p37 : lw_okq (⟨"PagingKernelModel", "wordOf", "(II)I"⟩, 20) := ⟨⟨by decide +kernel, by decide +kernel⟩, List.mem_of_getElem? (i := 486) (by decide +kernel), List.mem_of_getElem? (i := 653) (by decide +kernel), List.mem_of_getElem? (i := 654) (by decide +kernel)⟩
theorem lw_p38 : lw_okq (⟨"PagingKernelModel", "seek", "(II)I"⟩, 20) := ⟨⟨by decide +kernel, by decide +kernel⟩, List.mem_of_getElem? (i := 486) (by decide +kernel), List.mem_of_getElem? (i := 673) (by decide +kernel), List.mem_of_getElem? (i := 674) (by decide +kernel)⟩
def lw_privs_3 : List (MethodName × Nat) := [(⟨"PagingKernelModel", "look", "()Z"⟩, 20), (⟨"PagingKernelModel", "canGo", "(I)Z"⟩, 20), (⟨"PagingKernelModel", "freeSlot", "()I"⟩, 20), (⟨"PagingKernelModel", "sendOut", "(I)V"⟩, 20), (⟨"PagingKernelModel", "putIn", "(II)V"⟩, 20), (⟨"PagingKernelModel", "wordOf", "(II)I"⟩, 20), (⟨"PagingKernelModel", "seek", "(II)I"⟩, 20)]
theorem lw_r3 : ∀ q ∈ lw_privs_3, lw_okq q := List.forall_mem_cons.mpr ⟨lw_p32, List.forall_mem_cons.mpr ⟨lw_p33, List.forall_mem_cons.mpr ⟨lw_p34, List.forall_mem_cons.mpr ⟨lw_p35, List.forall_mem_cons.mpr ⟨lw_p36, List.forall_mem_cons.mpr ⟨lw_p37, List.forall_mem_cons.mpr ⟨lw_p38, fun _ h => absurd h List.not_mem_nil⟩⟩⟩⟩⟩⟩⟩
def lw_privs : List (MethodName × Nat) := lw_privs_1 ++ (lw_privs_2 ++ (lw_privs_3))
def lw_tbl : List Cond := k2_sels lw_privs ++ tables_1
theorem lw_privs_ok : ∀ q ∈ lw_privs, lw_okq q := by
  show ∀ q ∈ lw_privs_1 ++ (lw_privs_2 ++ (lw_privs_3)), lw_okq q
  exact List.forall_mem_append.mpr ⟨lw_r1, List.forall_mem_append.mpr ⟨lw_r2, lw_r3⟩⟩
end
section
def va_AOA (t : FieldType) (U : State) : Prop := (Cond.arrayOver (.array t)).before #[] U = true
theorem va_AOA.use {t : FieldType} {A : Array Value} {U : State} (h : va_AOA t U) : (Cond.arrayOver (.array t)).before A U = true := h
section AMG0
variable {p : Program} {l : Launch} {e : Env} {R : Room} {s : State} {m : MethodId} {args : Array Value} {below : List Frame} {meth : Method} {c : Code} {H : Heap} {locs : List Loc} {cells slots : Nat} {Q : State → Prop} {cc : ByteArray} {pc : Nat} {ls : Array Slot} {rest : List Value} {D : va_G} {cl : List vw_C} {a : Nat} {tys : List (ClassId × FieldType)} {ws : va_W}
theorem am_aald (hexec : p.tables.exec = Jvm.exec) (hb : c.code = cc) (hK : va_K D cl tys s) (hP : va_P D cl ws H) (q0 t0 : Nat) {cA : ClassId} {t : FieldType} {n : Nat} {f : Nat → Option Nat} (ha : ws[q0]? = some (a, .inl (cA, n, .inr (.inr (.inr (.inr f)))))) (ht : tys[t0]? = some (cA, .array t)) {i : Int32} (hin : vp_in i n) (hdg : decode cc pc = .ok (.aaload, 1))
    (kk : W p l e R s m args below meth c H locs cells slots Q (F0 m (pc + 1) ls (va_rf (f i.toNatClampNeg) :: rest))) : W p l e R s m args below meth c H locs cells slots Q (F0 m pc ls (.int i :: .ref a :: rest)) := by
  have hlt : i.toNatClampNeg < n := Nat.not_le.mp fun q => hin (Or.inr q)
  exact W.aald (v := va_rf (f i.toNatClampNeg)) (ty := .array t) hexec hb (hP q0 _ ha) ((hK.2 t0 _ ht).1 n (fun j => va_rf (f j))) rfl (fun q => by cases q) (by show ¬ (i < 0 ∨ (arrV _ _ _).slots.size ≤ _); rw [arrV_size]; exact hin) (by show (arrV _ _ _).slots[_]? = _; rw [arrV_read _ _ hlt]) rfl rfl hdg kk
end AMG0
/-! ===== BEGIN words of one list among another's, by their places ===== -/
theorem goodIn_r {big : List Cond} (ws : List Cond) (ps : List Nat) (hp : ws = ps.filterMap (fun i => big[i]?)) (h : ws.all goodWord = true) : GoodIn big ws := by
  intro w hw
  have h1 := List.all_eq_true.mp h w hw
  rw [hp] at hw
  obtain ⟨i, -, hi⟩ := List.mem_filterMap.mp hw
  have hm : w ∈ big := by first | exact List.mem_of_getElem? hi | exact List.getElem?_mem hi
  exact ⟨hm, good_of_word h1⟩
theorem goodIn_app {big a b : List Cond} (ha : GoodIn big a) (hb : GoodIn big b) : GoodIn big (a ++ b) := fun w h => (List.mem_append.mp h).elim (ha w) (hb w)
theorem goodIn_ca {big a b : List Cond} {c : Cond} (ha : GoodIn big (c :: a)) (hb : GoodIn big b) : GoodIn big (c :: (a ++ b)) := fun w h => (List.mem_cons.mp h).elim (fun e => ha w (List.mem_cons.mpr (Or.inl e))) (fun h => (List.mem_append.mp h).elim (fun h => ha w (List.mem_cons.mpr (Or.inr h))) (hb w))
theorem goodIn_sub {big ws : List Cond} (hm : ∀ w ∈ ws, w ∈ big) (h : ws.all goodWord = true) : GoodIn big ws := fun w hw => ⟨hm w hw, good_of_word (List.all_eq_true.mp h w hw)⟩
/-! ===== END ===== -/

/-! ===== BEGIN new T[n][m]: the outer array a place, the inner ones among the pooled ===== -/
/-- f, but v at every address of l -/
def vr_up {α : Type} (f : Nat → α) (l : List Nat) (v : α) : Nat → α := fun a => if a ∈ l then v else f a
theorem vr_up_in {α : Type} {f : Nat → α} {l : List Nat} {v : α} {a : Nat} (h : a ∈ l) : vr_up f l v a = v := if_pos h
theorem vr_up_ne {α : Type} {f : Nat → α} {l : List Nat} {v : α} {a : Nat} (h : a ∉ l) : vr_up f l v a = f a := if_neg h
theorem vr_rows {L l : List Nat} {f : Nat → va_E} {e : va_E} (h : ∀ a, a ∈ l → a ∉ L) : va_pl L f ++ l.map (fun a => (a, e)) = va_pl (L ++ l) (vr_up f l e) := by
  unfold va_pl
  rw [List.map_append]
  congr 1
  · apply List.map_congr_left
    intro a ha
    rw [vr_up_ne (fun q => h a q ha)]
  · apply List.map_congr_left
    intro a ha
    rw [vr_up_in ha]
theorem vr_lay {X rows : va_W} {x : Nat × va_E} {pl : va_W} {D : va_G} {cl : List vw_C} {H : Heap} (hP : va_P D cl (((X ++ pl) ++ [x]) ++ rows) H) : va_P D cl ((X ++ [x]) ++ (pl ++ rows)) H := by
  rw [List.append_assoc (X ++ pl)] at hP
  have h := va_P.swap hP
  rw [← List.append_assoc X] at h
  have h2 := va_P.swap h
  rw [List.append_assoc (X ++ [x])] at h2
  exact h2
theorem vr_layD {X rows : va_W} {x : Nat × va_E} {pl : va_W} {A : Nat → Prop} (hD : va_D A (((X ++ pl) ++ [x]) ++ rows)) : va_D A ((X ++ [x]) ++ (pl ++ rows)) := by
  rw [List.append_assoc (X ++ pl)] at hD
  have h := va_D.swap hD
  rw [← List.append_assoc X] at h
  have h2 := va_D.swap h
  rw [List.append_assoc (X ++ [x])] at h2
  exact h2
theorem vr_outer (c : ClassId) (N h0 : Nat) : ∀ i : Nat, Jvm.Free.Multi.outerC c N h0 i = arrV c N (fun j => va_rf (if j < i then some (h0 + 1 + j) else none))
  | 0 => by
    show ({ cls := c, slots := Array.replicate N .null, vm := .none } : Cell) = _
    rw [arrV_new]
    refine congrArg (arrV c N) (funext fun j => ?_)
    simp [va_rf]
  | i + 1 => by
    show (Jvm.Free.Multi.outerC c N h0 i).setSlot i (.ref (h0 + 1 + i)) = _
    rw [vr_outer c N h0 i, arrV_store]
    refine congrArg (arrV c N) (funext fun j => ?_)
    by_cases e : j = i
    · subst e
      simp [updV, va_rf]
    · by_cases h : j < i
      · simp [updV, e, h, Nat.lt_succ_of_lt h]
      · simp [updV, e, h, show ¬ j < i + 1 by omega]
section VGM
variable {p : Program} {l : Launch} {e : Env} {R : Room} {s : State} {m : MethodId} {args : Array Value} {below : List Frame} {meth : Method} {c : Code} {H : Heap} {locs : List Loc} {cells slots : Nat} {Q : State → Prop}
variable {cc : ByteArray} {pc : Nat} {ls : Array Slot} {rest : List Value} {D : va_G} {cl : List vw_C} {A : Nat → Prop} {a : Nat} {tys : List (ClassId × FieldType)} {ws : va_W} {H0 : Heap}
theorem va_mna {X : va_W} {L : List Nat} {f : Nat → va_E} {cc : ByteArray} (hexec : p.tables.exec = Jvm.exec) (hb : c.code = cc) {own : String} {index : Nat} {ty : FieldType} {cy : ClassId} (hown : s.vm.findClass own = some m.cls) (hclink : (Cond.classLink own index ("[" ++ (FieldType.array ty).toString)).before args s = true) (hover : va_AOA ty s) (harr : (Cond.arrayClass ty).before args s = true) (hcy : s.vm.findClass (FieldType.array ty).toString = some cy)
    (hK : va_K D cl tys s) (hP : va_P D cl (X ++ va_pl L f) H) (hD : va_D A (X ++ va_pl L f)) (hS : va_S A H0 H locs) (hA : ∀ q, H0.size ≤ q → A q) {n k : Int32} {N' K' : Nat} {z : vp_A} (hn : ¬ n < 0) (hk : ¬ k < 0) (hN : n.toNatClampNeg = N') (hM : k.toNatClampNeg = K')
    (hb1 : N' * 4 ≤ 536870912) (hb2 : K' * componentBytes ty ≤ 536870912) (hb3 : K' ≤ 536870912) (hdf : fits ty (defaultValue ty) = true) (hdd : (defaultValue ty).isDefault = true) (hcells : cells + (1 + N') ≤ R.cells) (hslots : slots + (N' + N' * K') ≤ R.slots) (hz : ∀ c : ClassId, Jvm.Free.Multi.innerC c K' (defaultValue ty) = vp_cell c z) (hdg : decode cc pc = .ok (.multianewarray index 2, 4))
    (kk : ∀ (q : Nat) (r : Nat → Nat) (cA : ClassId) (H1 : Heap), (∀ i j : Nat, i < N' → j < N' → r i = r j → i = j) → (∀ i : Nat, i < N' → r i ∉ L) → va_K D cl (tys ++ [(cA, .array ty)]) s →
      va_P D cl ((X ++ [(q, .inl (cA, N', .inr (.inr (.inr (.inr (fun i => if i < N' then some (r i) else none))))))]) ++ va_pl (L ++ (List.range N').map r) (vr_up f ((List.range N').map r) (.inl (cy, z)))) H1 → va_D A ((X ++ [(q, .inl (cA, N', .inr (.inr (.inr (.inr (fun i => if i < N' then some (r i) else none))))))]) ++ va_pl (L ++ (List.range N').map r) (vr_up f ((List.range N').map r) (.inl (cy, z)))) → va_S A H0 H1 locs →
      W p l e R s m args below meth c H1 locs (cells + 1 + N') (slots + N' + N' * K') Q (F0 m (pc + 4) ls (.ref q :: rest))) : W p l e R s m args below meth c H locs cells slots Q (F0 m pc ls (.int k :: .int n :: rest)) := by
  subst hN
  subst hM
  intro T hT Xs
  obtain ⟨vm₁, cA, comp, -, fA, fC, hO, -, X', step⟩ := Xs.multianewarray2F hexec hown hclink (va_AOA.use hover) harr (g := F0 m pc ls (.int k :: .int n :: rest)) rfl (by rw [hb]; exact hdg) rfl hn hk hb1 hb2 hb3 hdf hdd hcells hslots
  have ec : some cy = some comp := hcy.symm.trans fC
  cases ec
  generalize hF : Jvm.Free.Multi.fill (T.setVm vm₁) cA cy n.toNatClampNeg k.toNatClampNeg (defaultValue ty) n.toNatClampNeg = F at X' step
  have hTh : (T.setVm vm₁).heap = H := hT
  obtain ⟨f1, f2, -, -⟩ := Jvm.Free.Multi.fill_facts (T.setVm vm₁) cA cy n.toNatClampNeg k.toNatClampNeg (defaultValue ty) n.toNatClampNeg
  rw [hF, hTh] at f1 f2
  have hold : ∀ x : Nat, x < H.size → F.heap[x]? = H[x]? := fun x hx => by
    have := Jvm.Free.Multi.fill_old (T.setVm vm₁) cA cy n.toNatClampNeg k.toNatClampNeg (defaultValue ty) (a := x) (by rw [hTh]; exact hx) n.toNatClampNeg
    rw [hF, hTh] at this
    exact this
  have hrow : ∀ j : Nat, j < n.toNatClampNeg → F.heap[H.size + 1 + j]? = some (vp_cell cy z) := fun j hj => by
    have := Jvm.Free.Multi.fill_inner (T.setVm vm₁) cA cy n.toNatClampNeg k.toNatClampNeg (defaultValue ty) n.toNatClampNeg j hj
    rw [hF, hTh, hz] at this
    exact this
  have hout : Jvm.Free.Multi.outerC cA n.toNatClampNeg H.size n.toNatClampNeg = vp_cell cA (n.toNatClampNeg, .inr (.inr (.inr (.inr (fun i => if i < n.toNatClampNeg then some (H.size + 1 + i) else none))))) := by
    rw [vp_cell_q]
    exact vr_outer cA n.toNatClampNeg H.size n.toNatClampNeg
  rw [hout] at f2
  have hlt : ∀ a, a ∈ L → a < H.size := fun a ha => by
    obtain ⟨k9, hk9⟩ := va_pl_get (X := X) (f := f) ha
    exact (hP k9 _ hk9).lt
  have hnl : ∀ i : Nat, i < n.toNatClampNeg → H.size + 1 + i ∉ L := fun i _ h => by
    have := hlt _ h
    omega
  have hnm : ∀ a, a ∈ (List.range n.toNatClampNeg).map (fun i => H.size + 1 + i) → a ∉ L := fun a ha h => by
    obtain ⟨i, -, rfl⟩ := List.mem_map.mp ha
    have := hlt _ h
    omega
  have hP0 : va_P D cl (X ++ va_pl L f) F.heap := hP.kept (fun k9 x hx => hold x.1 ((hP k9 x hx).lt))
  have hP1 : va_P D cl ((X ++ va_pl L f) ++ [(H.size, .inl (cA, n.toNatClampNeg, .inr (.inr (.inr (.inr (fun i => if i < n.toNatClampNeg then some (H.size + 1 + i) else none))))))]) F.heap := hP0.app (fun k9 x hx => by
    have h0 : k9 < 1 := (List.getElem?_eq_some_iff.mp hx).1
    rw [show k9 = 0 by omega] at hx
    cases hx
    exact f2)
  have hP2 : va_P D cl (((X ++ va_pl L f) ++ [(H.size, .inl (cA, n.toNatClampNeg, .inr (.inr (.inr (.inr (fun i => if i < n.toNatClampNeg then some (H.size + 1 + i) else none))))))]) ++ ((List.range n.toNatClampNeg).map (fun i => H.size + 1 + i)).map (fun a => (a, .inl (cy, z)))) F.heap := hP1.app (fun k9 x hx => by
    obtain ⟨a, ha, rfl⟩ := List.mem_map.mp (List.mem_of_getElem? hx)
    obtain ⟨i, hi, rfl⟩ := List.mem_map.mp ha
    exact hrow i (List.mem_range.mp hi))
  have hD2 : va_D A (((X ++ va_pl L f) ++ [(H.size, .inl (cA, n.toNatClampNeg, .inr (.inr (.inr (.inr (fun i => if i < n.toNatClampNeg then some (H.size + 1 + i) else none))))))]) ++ ((List.range n.toNatClampNeg).map (fun i => H.size + 1 + i)).map (fun a => (a, .inl (cy, z)))) := by
    have hD1 := hD.push (e := .inl (cA, n.toNatClampNeg, .inr (.inr (.inr (.inr (fun i => if i < n.toNatClampNeg then some (H.size + 1 + i) else none)))))) hP rfl (hA _ hS.1)
    generalize hW1 : (X ++ va_pl L f) ++ [(H.size, .inl (cA, n.toNatClampNeg, .inr (.inr (.inr (.inr (fun i => if i < n.toNatClampNeg then some (H.size + 1 + i) else none))))))] = W1 at hD1 hP1 ⊢
    have hle : ∀ (k9 : Nat) (x : Nat × va_E), W1[k9]? = some x → x.1 ≤ H.size := fun k9 x hx => by
      rw [← hW1] at hx
      by_cases hl : k9 < (X ++ va_pl L f).length
      · rw [List.getElem?_append_left hl] at hx
        exact Nat.le_of_lt ((hP k9 x hx).lt)
      · rw [List.getElem?_append_right (by omega)] at hx
        have h0 : k9 - (X ++ va_pl L f).length < 1 := (List.getElem?_eq_some_iff.mp hx).1
        rw [show k9 - (X ++ va_pl L f).length = 0 by omega] at hx
        cases hx
        exact Nat.le_refl _
    have hr : ∀ (k9 : Nat) (x : Nat × va_E), (((List.range n.toNatClampNeg).map (fun i => H.size + 1 + i)).map (fun a => ((a, .inl (cy, z)) : Nat × va_E)))[k9]? = some x → x.1 = H.size + 1 + k9 := fun k9 x hx => by
      rw [List.getElem?_map, List.getElem?_map] at hx
      by_cases h9 : k9 < n.toNatClampNeg
      · rw [List.getElem?_range h9] at hx
        cases hx
        rfl
      · have hn0 : (List.range n.toNatClampNeg)[k9]? = none := List.getElem?_eq_none (by rw [List.length_range]; omega)
        rw [hn0] at hx
        cases hx
    refine ⟨fun i j x y hi hj hxy => ?_, fun k9 x hx => ?_⟩
    · by_cases h1 : i < W1.length <;> by_cases h2 : j < W1.length
      · rw [List.getElem?_append_left h1] at hi
        rw [List.getElem?_append_left h2] at hj
        exact hD1.1 i j x y hi hj hxy
      · rw [List.getElem?_append_left h1] at hi
        rw [List.getElem?_append_right (by omega)] at hj
        have := hle _ _ hi
        have := hr _ _ hj
        omega
      · rw [List.getElem?_append_right (by omega)] at hi
        rw [List.getElem?_append_left h2] at hj
        have := hle _ _ hj
        have := hr _ _ hi
        omega
      · rw [List.getElem?_append_right (by omega)] at hi hj
        have := hr _ _ hi
        have := hr _ _ hj
        omega
    · by_cases h1 : k9 < W1.length
      · rw [List.getElem?_append_left h1] at hx
        exact hD1.2 k9 x hx
      · rw [List.getElem?_append_right (by omega)] at hx
        have := hr _ _ hx
        exact hA _ (by have := hS.1; omega)
  have hAr : ArrOfT s cA (.array ty) := fun N9 z9 => by
    obtain ⟨-, k9, hk9, cm9, hkk9⟩ := (hO 0 0 0).1
    exact ⟨(fun q hq => by cases hq), k9, hk9, cm9, hkk9⟩
  have hK2 : va_K D cl (tys ++ [(cA, .array ty)]) s := ⟨hK.1, fun k9 x hx => by
    by_cases hl : k9 < tys.length
    · rw [List.getElem?_append_left hl] at hx
      exact hK.2 k9 x hx
    · rw [List.getElem?_append_right (by omega)] at hx
      have h0 : k9 - tys.length < 1 := (List.getElem?_eq_some_iff.mp hx).1
      rw [show k9 - tys.length = 0 by omega] at hx
      cases hx
      exact ⟨hAr, fA⟩⟩
  obtain ⟨t, a1, b1⟩ := kk H.size (fun i => H.size + 1 + i) cA F.heap (fun i j _ _ h => by have h9 : H.size + 1 + i = H.size + 1 + j := h; omega) hnl hK2 (by rw [← vr_rows hnm]; exact vr_lay hP2) (by rw [← vr_rows hnm]; exact vr_layD hD2) ⟨by rw [f1]; have := hS.1; omega, fun x h1 h2 => (hold x (Nat.lt_of_lt_of_le h1 hS.1)).trans (hS.2.1 x h1 h2), hS.2.2⟩ F rfl X'
  refine ⟨t, step t ?_, b1⟩
  have e : T.heap.size = H.size := by rw [hT]
  rw [e]
  exact a1
end VGM
/-! ===== END ===== -/

/-! ===== BEGIN exceptions that leave a method, and their catching by the caller (launches without stack traces) ===== -/
section VXA
/-! The laws vx_back, vx_callV, vx_callS, vx_callSW, vx_throw0, vx_throwS follow proofs of the library, with one case more: JvmDerived/Free/Laws.lean (Back.of_free), Shelf42/LK1.lean (callV, callS), Shelf/KitTraced.lean (throwNew0V, throwNewS). -/
/-- where a method has thrown q: the class by its name, the cell, what was written, the world -/
def vx_T (XC : String → State → State → Prop) (st : State) (q : Addr) (t : State) (mc ms : Nat) (free : Addr → Prop) : Prop :=
  ∃ (E : String) (ce : Cell) (L : List Loc), XC E st t ∧ t.heap[q]? = some ce ∧ ce.vm = .none ∧ st.vm.findClass E = some ce.cls ∧ st.WarmedH t.vm ∧ st.sameButNew ({ t with vm := st.vm } : State) L mc ms ∧ ∀ z ∈ L, free z.base
def vx_Q (Qc : Array Value → State → Outcome → State → Prop) (XC : String → State → State → Prop) (mc ms : Nat) (free : Addr → Prop) : Array Value → State → Outcome → State → Prop := fun a st o t =>
  (Qc a st o t ∧ ∃ L, FrameEnd st o t L mc ms ∧ ∀ q ∈ L, free q.base) ∨ ∃ q, o = .threw q ∧ vx_T XC st q t mc ms free
/-- a callee that returns or throws -/
def vx_Met (l : Launch) (y : MethodName) (ws : List Cond) (rm : Room) (Pc : Array Value → State → Prop) (Qc : Array Value → State → Outcome → State → Prop) (XC : String → State → State → Prop) (mc ms : Nat) (free : Addr → Prop) : Prop :=
  MetFree l y (headSpec ws rm) Pc (fun _ _ _ _ _ => True) (vx_Q Qc XC mc ms free)
def vx_Post (XC : String → State → State → Prop) (mc ms : Nat) (free : Addr → Prop) : Pt → Array Value → Addr → Pt → Prop := fun A a q B =>
  ∃ (g : JFrame) (mk : MethodId) (t : State) (L : List Loc) (E : String) (ce : Cell), B.U.heap = t.heap ∧ B.U.vm = t.vm ∧ XC E (A.U.calling g mk a) t ∧ t.heap[q]? = some ce ∧ ce.vm = .none ∧ A.U.vm.findClass E = some ce.cls ∧ B.locs = A.locs ++ L ∧ (∀ z ∈ L, free z.base) ∧ B.cells = A.cells + mc ∧ B.slots = A.slots + ms
def vx_Back (l : Launch) (R : Room) (p : Program) (e : Env) (below : List Frame) (s : State) (sargs : Array Value) (y : MethodName) (len W9 : Nat)
    (Pre : Pt → Array Value → Prop) (Post : Pt → Array Value → Option Value → Pt → Prop) (PostX : Pt → Array Value → Addr → Pt → Prop) : Prop :=
  ∀ (m : MethodId) (meth : Method) (c : Code) (A : Pt) (g : JFrame) (ig : Instr) (mk : MethodId) (a : Array Value),
    Stand p l e R s m sargs below meth c A.U A.locs A.cells A.slots → g.method = m → g.locals.size = c.maxLocals → decode c.code g.pc = .ok (ig, len) →
    2 * g.monitorRoom + (g.stack.map fun v => v.category).sum ≤ W9 → A.U.methodNamed? y = some mk → Pre A a →
    (∃ (v : Option Value) (B : Pt), Stand p l e R s m sargs below meth c B.U B.locs B.cells B.slots ∧ Post A a v B ∧
      Steps p.tables e below (doInvoke e (A.U.setTop g) [] mk a).1 (B.U.setTop { g with pc := g.pc + len, stack := v.toList ++ g.stack })) ∨
    (∃ (q : Addr) (B : Pt), Stand p l e R s m sargs below meth c B.U B.locs B.cells B.slots ∧ PostX A a q B ∧
      Steps p.tables e below (doInvoke e (A.U.setTop g) [] mk a).1 ((B.U.setTop g).pushFrame (.throwing q)))
section Payer
variable {l : Launch} {R : Room} {p : Program} {e : Env} {below : List Frame} {s : State} {sargs : Array Value} {y : MethodName} {len W9 : Nat}
theorem vx_back {ws : List Cond} {rm : Room} {Pc : Array Value → State → Prop} {Qc : Array Value → State → Outcome → State → Prop} {XC : String → State → State → Prop} {mc ms : Nat} {free : Addr → Prop} {bytes : ByteArray} {maxL : Nat} {ret : Option FieldType}
    (hM : vx_Met l y ws rm Pc Qc XC mc ms free) (hblind : FrameBlind Pc) (hrc : rm.cells = mc) (hrs : rm.slots = ms)
    (hframes : rm.frames + 1 ≤ R.frames) (hlocals : W9 + (maxL + 11) + rm.locals ≤ R.locals)
    (hws : ∀ w ∈ ws, ∀ a' U, s.WarmedH U.vm → w.before a' U = true) (hcode : Cond.code y bytes maxL ret ∈ ws) (hinit : ∀ a' U, s.WarmedH U.vm → (Cond.initialized y.cls).before a' U = true) :
    vx_Back l R p e below s sargs y len W9 (PreOf R mc ms Pc) (PostOf Qc mc ms free) (vx_Post XC mc ms free) := by
  intro m meth c A g ig mk a X hg hsize hdg hW hn hp
  have h1 : (headSpec ws rm).pre.before a A.U = true := atoms_intro fun w hw => hws w hw _ _ X.warmed
  have h2 : (Cond.code y bytes maxL ret).before a A.U = true := hws _ hcode _ _ X.warmed
  have h3 : (Cond.initialized y.cls).before a A.U = true := hinit _ _ X.warmed
  have h4 : A.cells + (headSpec ws rm).room.cells ≤ R.cells := by rw [show (headSpec ws rm).room.cells = mc from hrc]; exact hp.1
  have h5 : A.slots + (headSpec ws rm).room.slots ≤ R.slots := by rw [show (headSpec ws rm).room.slots = ms from hrs]; exact hp.2.1
  have hPc : Pc a (A.U.calling g mk a) := hblind _ _ _ _ hp.2.2
  obtain ⟨U, Ls, c0, s0⟩ := A
  dsimp only [Pt.U, Pt.locs, Pt.cells, Pt.slots] at h1 h2 h3 h4 h5 X hn hPc ⊢
  obtain ⟨methY, cY, hmY, hcY, -, hlY, -, -, -, -⟩ := Cond.code_spec hn h2
  obtain ⟨kY, hkY, -⟩ := className_of_methodNamed hn
  have hinitY : kY.init = .initialized := Cond.initialized_spec (findClass_of_methodNamed hn) hkY h3
  have h : At U g.method c below := by rw [hg]; exact X.here
  have hlocals9 : W9 + (maxL + 11) + (headSpec ws rm).room.locals ≤ R.locals := hlocals
  have happ : (headSpec ws rm).appliesLoose y e.platform (U.calling g mk a) = true :=
    Spec.appliesLoose_calling (g := g) h hdg hn hkY hinitY
      (X.room_calling (g := g) (R' := (headSpec ws rm).room) hsize hmY hcY hframes (by rw [hlY]; omega) h4 h5) h1
  obtain ⟨mid, hmid⟩ := h.above
  have hfr : (U.setTop g).frames = (.java g :: mid) ++ below := by rw [State.frames_setTop' g h.top, hmid]; rfl
  obtain ⟨o, s₂, hsteps, -, hend, hq⟩ := Steps.callFree hM p X.admits X.cas X.clock (acts := []) hfr happ hPc trivial
  have hq' : vx_Q Qc XC mc ms free a (U.calling g mk a) o s₂ := hq
  rw [State.frames_setTop' g h.top] at hend
  obtain ⟨g₀, hg0⟩ := Option.isSome_iff_exists.mp h.top
  obtain ⟨r, hr⟩ := State.topJava?_eq_some.mp hg0
  have hr' : (({ U with heap := s₂.heap, slotsUsed := s₂.slotsUsed } : State).setVm s₂.vm).frames = .java g₀ :: r := hr
  rcases hq' with ⟨hqc, L, hfe, hL⟩ | ⟨q, rfl, E, ce, L, hx, hce, hcv, hcl, hW₂, hsm, hL⟩
  · obtain ⟨⟨v, rfl⟩, hW₂, e2, q2, q3, q4, q5, q6⟩ := id hfe
    have e3 : s₂ = ({ (U.calling g mk a).setFrames s₂.frames with heap := s₂.heap, slotsUsed := s₂.slotsUsed } : State).setVm s₂.vm := by
      have : s₂ = ({ s₂ with vm := (U.calling g mk a).vm } : State).setVm s₂.vm := rfl
      rw [e2] at this
      exact this
    obtain ⟨c₂, i₂, len₂, hc₂, hd₂, hf₂⟩ := hend
    have hW' : U.WarmedH s₂.vm := hW₂
    have hcc : c₂ = c := by
      have h1 : s₂.code? g.method = U.code? g.method := by
        rw [State.code?_eq, State.code?_eq, hW'.alike.method?]
      exact Option.some.inj (hc₂.symm.trans (h1.trans h.code))
    subst hcc
    have hlen : len₂ = len := by rw [hdg] at hd₂; cases hd₂; rfl
    subst hlen
    have hs₂ : s₂ = (({ U with heap := s₂.heap, slotsUsed := s₂.slotsUsed } : State).setVm s₂.vm).setTop { g with pc := g.pc + len₂, stack := v.toList ++ g.stack } := by
      refine e3.trans ?_
      rw [hf₂, State.calling_eq h.top, State.setFrames_setFrames, State.setTop_of_frames _ hr', hr]
      rfl
    have hsame : U.sameButNew ({ U with heap := s₂.heap, slotsUsed := s₂.slotsUsed } : State) L mc ms := by
      refine ⟨?_, q2, q3, q4, q5, q6⟩
      obtain ⟨t, ht, -⟩ := State.frames_cons hr
      show ({ U with heap := s₂.heap, slotsUsed := s₂.slotsUsed } : State) = { U.setFrames U.frames with heap := s₂.heap, slotsUsed := s₂.slotsUsed }
      rw [State.setFrames_self ht]
    subst hg
    refine Or.inl ⟨v, ⟨(({ U with heap := s₂.heap, slotsUsed := s₂.slotsUsed } : State).setVm s₂.vm), Ls ++ L, c0 + mc, s0 + ms⟩,
      ⟨X.admits, X.cas, X.clock, X.frames, X.room, X.hears, X.method, X.code, (X.here.setHeapUsed s₂.heap s₂.slotsUsed).setVm hW'.alike, X.tail, State.WarmedH.trans X.warmed hW', X.limits, X.bytes, X.same.trans (hsame.setVm s.vm)⟩,
      ⟨g, mk, s₂, L, rfl, rfl, hqc, rfl, hL, rfl, rfl⟩, ?_⟩
    show Steps p.tables e below _ ((({ U with heap := s₂.heap, slotsUsed := s₂.slotsUsed } : State).setVm s₂.vm).setTop { g with pc := g.pc + len₂, stack := v.toList ++ g.stack })
    rw [← hs₂]
    exact hsteps
  · obtain ⟨e2, q2, q3, q4, q5, q6⟩ := id hsm
    have e3 : s₂ = ({ (U.calling g mk a).setFrames s₂.frames with heap := s₂.heap, slotsUsed := s₂.slotsUsed } : State).setVm s₂.vm := by
      have : s₂ = ({ s₂ with vm := (U.calling g mk a).vm } : State).setVm s₂.vm := rfl
      rw [e2] at this
      exact this
    have hf₂ : s₂.frames = .throwing q :: .java g :: U.frames.tail := hend
    have hW' : U.WarmedH s₂.vm := hW₂
    have hs₂ : s₂ = ((({ U with heap := s₂.heap, slotsUsed := s₂.slotsUsed } : State).setVm s₂.vm).setTop g).pushFrame (.throwing q) := by
      refine e3.trans ?_
      rw [hf₂, State.calling_eq h.top, State.setFrames_setFrames, State.pushFrame, State.frames_setTop _ hr', State.setTop_of_frames _ hr', State.setFrames_setFrames, hr]
      rfl
    have hsame : U.sameButNew ({ U with heap := s₂.heap, slotsUsed := s₂.slotsUsed } : State) L mc ms := by
      refine ⟨?_, q2, q3, q4, q5, q6⟩
      obtain ⟨t, ht, -⟩ := State.frames_cons hr
      show ({ U with heap := s₂.heap, slotsUsed := s₂.slotsUsed } : State) = { U.setFrames U.frames with heap := s₂.heap, slotsUsed := s₂.slotsUsed }
      rw [State.setFrames_self ht]
    subst hg
    refine Or.inr ⟨q, ⟨(({ U with heap := s₂.heap, slotsUsed := s₂.slotsUsed } : State).setVm s₂.vm), Ls ++ L, c0 + mc, s0 + ms⟩,
      ⟨X.admits, X.cas, X.clock, X.frames, X.room, X.hears, X.method, X.code, (X.here.setHeapUsed s₂.heap s₂.slotsUsed).setVm hW'.alike, X.tail, State.WarmedH.trans X.warmed hW', X.limits, X.bytes, X.same.trans (hsame.setVm s.vm)⟩,
      ⟨g, mk, s₂, L, E, ce, rfl, rfl, hx, hce, hcv, hcl, rfl, hL, rfl, rfl⟩, ?_⟩
    show Steps p.tables e below _ (((({ U with heap := s₂.heap, slotsUsed := s₂.slotsUsed } : State).setVm s₂.vm).setTop g).pushFrame (.throwing q))
    rw [← hs₂]
    exact hsteps
end Payer
section Calls
variable {p : Program} {l : Launch} {e : Env} {R : Room} {s : State} {m : MethodId} {args : Array Value} {below : List Frame} {meth : Method} {c : Code} {T : State} {locs : List Loc} {cells slots : Nat}
theorem vx_callV (X : Stand p l e R s m args below meth c T locs cells slots) (hexec : p.tables.exec = Jvm.exec) {own C : String} {index : Nat} {y : MethodName} {bytes : ByteArray} {maxL : Nat} {ret : Option FieldType}
    (hown : s.vm.findClass own = some m.cls) (hlink : (Cond.methodLink own index y).before args s = true) (hinst : (Cond.instanceMethod y).before args s = true) (hsel : (Cond.selects C y y).before args s = true)
    (hcode : (Cond.code y bytes maxL ret).before args s = true) (hy : y.cls ≠ "java/lang/invoke/MethodHandle" ∧ y.cls ≠ "java/lang/invoke/VarHandle")
    {W9 : Nat} {Pre : Pt → Array Value → Prop} {Post : Pt → Array Value → Option Value → Pt → Prop} {PostX : Pt → Array Value → Addr → Pt → Prop} (hK : vx_Back l R p e below s args y 3 W9 Pre Post PostX)
    {b : Addr} {cellB : Cell} (hcell : T.heap[b]? = some cellB) (hobj : cellB.vm.isStatics = false) (hcls : s.vm.findClass C = some cellB.cls)
    {g : JFrame} (hg : g.method = m) (hsize : g.locals.size = c.maxLocals) {argsL rest : List Value} (hlen : ∀ sig, parseMethodDescriptor y.desc = some sig → argsL.length = sig.parameters.length)
    (hstack : g.stack = argsL.reverse ++ .ref b :: rest) (hW : 2 * g.monitorRoom + (rest.map fun v => v.category).sum ≤ W9) (hdg : decode c.code g.pc = .ok (.invokevirtual index, 3))
    (hpre : ∀ vm₁, s.WarmedH vm₁ → Pre ⟨T.setVm vm₁, locs, cells, slots⟩ (Value.ref b :: argsL).toArray) :
    (∃ (v : Option Value) (vm₁ : Vm) (B : Pt), s.WarmedH vm₁ ∧ Stand p l e R s m args below meth c B.U B.locs B.cells B.slots ∧ Post ⟨T.setVm vm₁, locs, cells, slots⟩ (Value.ref b :: argsL).toArray v B ∧
      ∀ target, Steps p.tables e below (B.U.setTop { g with pc := g.pc + 3, stack := v.toList ++ rest }) target → Steps p.tables e below (T.setTop g) target) ∨
    (∃ (q : Addr) (vm₁ : Vm) (B : Pt), s.WarmedH vm₁ ∧ Stand p l e R s m args below meth c B.U B.locs B.cells B.slots ∧ PostX ⟨T.setVm vm₁, locs, cells, slots⟩ (Value.ref b :: argsL).toArray q B ∧
      Steps p.tables e below (T.setTop g) ((B.U.setTop { g with stack := rest }).pushFrame (.throwing q))) := by
  obtain ⟨mk, methM, hnamed, hmethM, hstM, habM⟩ := Cond.instanceMethod_spec hinst
  obtain ⟨methM', cM, hmethM', -, -, -, -, -, -, hsigM⟩ := Cond.code_spec hnamed hcode
  cases hmethM.symm.trans hmethM'
  obtain ⟨c2, r2, m2, q1, q2, q3, q4, kP, hkP, hkPi⟩ := Cond.selects_spec hsel
  cases hcls.symm.trans q1
  cases (State.methodFound?_of_named hnamed hy).symm.trans q2
  cases hnamed.symm.trans q3
  have hselP : selectMethod e.platform s.vm cellB.cls mk = .method mk := by rw [Launch.admits_selectMethod X.admits]; exact q4
  obtain ⟨vm₁, X₁, hstep₁⟩ := X.invokevirtual hexec hown hlink hnamed hmethM hstM hkP hkPi hy (a := b) (cell := cellB) hcell
    (fun z h => by rw [h] at hobj; cases hobj) hselP hmethM habM hkP hkPi (g := g) hg (argsL := argsL) (rest := rest) (hlen _ hsigM) hstack hdg
  rcases hK m meth c ⟨T.setVm vm₁, locs, cells, slots⟩ { g with stack := rest } (.invokevirtual index) mk (Value.ref b :: argsL).toArray X₁ hg hsize hdg hW (X₁.named hnamed) (hpre vm₁ X₁.warmed) with ⟨v, B, X', hpost, hsteps⟩ | ⟨q, B, X', hpost, hsteps⟩
  · exact Or.inl ⟨v, vm₁, B, X₁.warmed, X', hpost, fun target h => hstep₁ _ fun acts => by rw [doInvoke_state]; exact hsteps.trans h⟩
  · exact Or.inr ⟨q, vm₁, B, X₁.warmed, X', hpost, hstep₁ _ fun acts => by rw [doInvoke_state]; exact hsteps⟩
theorem vx_callS (X : Stand p l e R s m args below meth c T locs cells slots) (hexec : p.tables.exec = Jvm.exec) {own : String} {index : Nat} {y : MethodName} {bytes : ByteArray} {maxL : Nat} {ret : Option FieldType}
    (hown : s.vm.findClass own = some m.cls) (hlink : (Cond.methodLink own index y).before args s = true) (hstat : (Cond.static y).before args s = true) (hinit : (Cond.initialized y.cls).before args s = true)
    (hcode : (Cond.code y bytes maxL ret).before args s = true) (hy : y.cls ≠ "java/lang/invoke/MethodHandle" ∧ y.cls ≠ "java/lang/invoke/VarHandle")
    {W9 : Nat} {Pre : Pt → Array Value → Prop} {Post : Pt → Array Value → Option Value → Pt → Prop} {PostX : Pt → Array Value → Addr → Pt → Prop} (hK : vx_Back l R p e below s args y 3 W9 Pre Post PostX)
    {g : JFrame} (hg : g.method = m) (hsize : g.locals.size = c.maxLocals) {argsL rest : List Value} (hlen : ∀ sig, parseMethodDescriptor y.desc = some sig → argsL.length = sig.parameters.length)
    (hstack : g.stack = argsL.reverse ++ rest) (hW : 2 * g.monitorRoom + (rest.map fun v => v.category).sum ≤ W9) (hdg : decode c.code g.pc = .ok (.invokestatic index, 3))
    (hpre : ∀ vm₁, s.WarmedH vm₁ → Pre ⟨T.setVm vm₁, locs, cells, slots⟩ argsL.toArray) :
    (∃ (v : Option Value) (vm₁ : Vm) (B : Pt), s.WarmedH vm₁ ∧ Stand p l e R s m args below meth c B.U B.locs B.cells B.slots ∧ Post ⟨T.setVm vm₁, locs, cells, slots⟩ argsL.toArray v B ∧
      ∀ target, Steps p.tables e below (B.U.setTop { g with pc := g.pc + 3, stack := v.toList ++ rest }) target → Steps p.tables e below (T.setTop g) target) ∨
    (∃ (q : Addr) (vm₁ : Vm) (B : Pt), s.WarmedH vm₁ ∧ Stand p l e R s m args below meth c B.U B.locs B.cells B.slots ∧ PostX ⟨T.setVm vm₁, locs, cells, slots⟩ argsL.toArray q B ∧
      Steps p.tables e below (T.setTop g) ((B.U.setTop { g with stack := rest }).pushFrame (.throwing q))) := by
  obtain ⟨mk, hnamed⟩ := Cond.code_named hcode
  obtain ⟨methM, cM, hmethM, -, -, -, -, -, -, hsigM⟩ := Cond.code_spec hnamed hcode
  have hstatic : methM.isStatic = true := Cond.static_spec hnamed hmethM hstat
  obtain ⟨kP, hkP, -⟩ := className_of_methodNamed hnamed
  have hinitP : kP.init = .initialized := Cond.initialized_spec (findClass_of_methodNamed hnamed) hkP hinit
  obtain ⟨vm₁, X₁, hstep₁⟩ := X.invokestatic hexec hown hlink hnamed hmethM hstatic hkP hinitP hy (g := g) hg (argsL := argsL) (rest := rest) (hlen _ hsigM) hstack hdg
  rcases hK m meth c ⟨T.setVm vm₁, locs, cells, slots⟩ { g with stack := rest } (.invokestatic index) mk argsL.toArray X₁ hg hsize hdg hW (X₁.named hnamed) (hpre vm₁ X₁.warmed) with ⟨v, B, X', hpost, hsteps⟩ | ⟨q, B, X', hpost, hsteps⟩
  · exact Or.inl ⟨v, vm₁, B, X₁.warmed, X', hpost, fun target h => hstep₁ _ fun acts => by rw [doInvoke_state]; exact hsteps.trans h⟩
  · exact Or.inr ⟨q, vm₁, B, X₁.warmed, X', hpost, hstep₁ _ fun acts => by rw [doInvoke_state]; exact hsteps⟩
end Calls
theorem vx_cls {s : State} {T : State} {vm₁ : Vm} {E : String} {k : ClassId} (hW : s.WarmedH vm₁) (h : (T.setVm vm₁).vm.findClass E = some k) : s.vm.findClass E = some k := by
  have h1 : vm₁.findClass E = some k := h
  rw [hW.alike.findClass] at h1
  exact h1
/-- the method's frame g, with q thrown over it -/
def vx_W (p : Program) (l : Launch) (e : Env) (R : Room) (s : State) (m : MethodId) (args : Array Value) (below : List Frame) (meth : Method) (c : Code) (H : Heap) (locs : List Loc) (cells slots : Nat) (Q : State → Prop) (g : JFrame) (q : Addr) : Prop :=
  ∀ T : State, T.heap = H → Stand p l e R s m args below meth c T locs cells slots → ∃ t, Steps p.tables e below ((T.setTop g).pushFrame (.throwing q)) t ∧ Q t
def vx_Run (p : Program) (l : Launch) (e : Env) (R : Room) (s : State) (m : MethodId) (args : Array Value) (below : List Frame) (meth : Method) (c : Code) (H : Heap) (locs : List Loc) (cells slots mc ms : Nat) (g : JFrame) (rest : List Value) (Qa : State → Outcome → State → Prop) (XC : String → State → State → Prop) (free : Addr → Prop) : Prop :=
  ∀ T : State, T.heap = H → Stand p l e R s m args below meth c T locs cells slots →
    (∃ (v : Option Value) (st₀ t T' : State) (L : List Loc), st₀.heap = H ∧ Stand p l e R s m args below meth c T' (locs ++ L) (cells + mc) (slots + ms) ∧ (∀ q ∈ L, free q.base) ∧ T'.heap = t.heap ∧ T'.vm = t.vm ∧ Qa st₀ (.returned v) t ∧
      Goes p e below T g T' { g with pc := g.pc + 3, stack := v.toList ++ rest }) ∨
    (∃ (q : Addr) (st₀ t T' : State) (L : List Loc) (E : String) (ce : Cell), st₀.heap = H ∧ Stand p l e R s m args below meth c T' (locs ++ L) (cells + mc) (slots + ms) ∧ (∀ z ∈ L, free z.base) ∧ T'.heap = t.heap ∧ T'.vm = t.vm ∧ XC E st₀ t ∧ t.heap[q]? = some ce ∧ ce.vm = .none ∧ s.vm.findClass E = some ce.cls ∧
      Steps p.tables e below (T.setTop g) ((T'.setTop { g with stack := rest }).pushFrame (.throwing q)))
def vx_X {S : Type} (px : S → Prop) (B : String → S → State → Prop) (A : Nat → Prop) : String → State → State → Prop := fun E st t => ∃ u : S, px u ∧ B E u t ∧ va_F A st t
section Runs
variable {p : Program} {l : Launch} {e : Env} {R : Room} {s : State} {m : MethodId} {args : Array Value} {below : List Frame} {meth : Method} {c : Code} {H : Heap} {locs : List Loc} {cells slots : Nat}
variable {y : MethodName} {bytes cc : ByteArray} {maxL nL mc ms n index : Nat} {ret : Option FieldType} {ws : List Cond} {rm : Room} {Pc : Array Value → State → Prop} {Qc : Array Value → State → Outcome → State → Prop} {XC : String → State → State → Prop} {free : Addr → Prop} {Ts : List Cond} {own C : String} {b : Addr} {As rest : List Value} {g : JFrame}
theorem vx_callBack (cb : CallB R s args own index y bytes maxL ret ws rm mc ms n) (hM : vx_Met l y ws rm Pc Qc XC mc ms free) (hbl : FrameBlind Pc) : vx_Back l R p e below s args y 3 8 (PreOf R mc ms Pc) (PostOf Qc mc ms free) (vx_Post XC mc ms free) := by
  obtain ⟨hrc, hrs, hfr, hlo, hws, hcw, -, hini, -⟩ := cb
  exact vx_back (bytes := bytes) (maxL := maxL) (ret := ret) hM hbl hrc hrs hfr hlo hws hcw (fun a' U hW => word_at hW (Or.inl (by first | rfl | simp [Cond.onTables, Cond.keeps, Cond.steady])) hini)
theorem vx_runV (S : CallFix p m c cc nL s args Ts own) (hM : vx_Met l y ws rm Pc Qc XC mc ms free) (cw : CallW R s args own C index y bytes maxL ret ws rm mc ms n) (hp : PreV s H C b Pc As)
    (hg : g.method = m) (hn : As.length = n) (hsize : g.locals.size = nL) (hstack : g.stack = As.reverse ++ .ref b :: rest) (hW : 2 * g.monitorRoom + (rest.map fun v => v.category).sum ≤ 8) (hdg : decode cc g.pc = .ok (.invokevirtual index, 3)) (hf : cells + mc ≤ R.cells ∧ slots + ms ≤ R.slots) :
    vx_Run p l e R s m args below meth c H locs cells slots mc ms g rest (Qc (Value.ref b :: As).toArray) XC free := by
  have hK : vx_Back l R p e below s args y 3 8 (PreOf R mc ms Pc) (PostOf Qc mc ms free) (vx_Post XC mc ms free) := vx_callBack cw.1 hM hp.1
  obtain ⟨⟨-, -, -, -, -, -, hcode, -, hy, hlen, hl⟩, hin, hse⟩ := cw
  obtain ⟨hx, hb, hml, ho, -⟩ := S
  obtain ⟨-, ⟨cellB, hcB, hoB, hclB⟩, hPc⟩ := hp
  intro T hT X
  rcases vx_callV X hx (C := C) (bytes := bytes) (maxL := maxL) (ret := ret) ho hl hin hse hcode hy hK (by rw [hT]; exact hcB) hoB hclB hg (hsize.trans hml.symm) (argsL := As) (rest := rest) (fun sig h => hn.trans (hlen sig h)) hstack hW (by rw [hb]; exact hdg)
    (fun vm₁ hW₁ => ⟨hf.1, hf.2, hPc (T.setVm vm₁) hT hW₁⟩) with ⟨v, vm₁, ⟨U', l2, c2, s2⟩, hW₁, X', ⟨g', mk, t, L, e1, e2, hq, h1, hL, h2, h3⟩, st⟩ | ⟨q, vm₁, ⟨U', l2, c2, s2⟩, hW₁, X', ⟨g', mk, t, L, E, ce, e1, e2, hq, hce, hcv, hcl, h1, hL, h2, h3⟩, st⟩
  · dsimp only [Pt.U, Pt.locs, Pt.cells, Pt.slots] at X' e1 e2 h1 h2 h3 st
    subst h1; subst h2; subst h3
    exact Or.inl ⟨v, (T.setVm vm₁).calling g' mk (Value.ref b :: As).toArray, t, U', L, hT, X', hL, e1, e2, hq, st⟩
  · dsimp only [Pt.U, Pt.locs, Pt.cells, Pt.slots] at X' e1 e2 h1 h2 h3 st hcl
    subst h1; subst h2; subst h3
    exact Or.inr ⟨q, (T.setVm vm₁).calling g' mk (Value.ref b :: As).toArray, t, U', L, E, ce, hT, X', hL, e1, e2, hq, hce, hcv, vx_cls hW₁ hcl, st⟩
theorem vx_runS (S : CallFix p m c cc nL s args Ts own) (hM : vx_Met l y ws rm Pc Qc XC mc ms free) (cw : CallB R s args own index y bytes maxL ret ws rm mc ms n ∧ (Cond.static y).before args s = true) (hp : PreS s H Pc As)
    (hg : g.method = m) (hn : As.length = n) (hsize : g.locals.size = nL) (hstack : g.stack = As.reverse ++ rest) (hW : 2 * g.monitorRoom + (rest.map fun v => v.category).sum ≤ 8) (hdg : decode cc g.pc = .ok (.invokestatic index, 3)) (hf : cells + mc ≤ R.cells ∧ slots + ms ≤ R.slots) :
    vx_Run p l e R s m args below meth c H locs cells slots mc ms g rest (Qc As.toArray) XC free := by
  have hK : vx_Back l R p e below s args y 3 8 (PreOf R mc ms Pc) (PostOf Qc mc ms free) (vx_Post XC mc ms free) := vx_callBack cw.1 hM hp.1
  obtain ⟨⟨-, -, -, -, -, -, hcode, hini, hy, hlen, hl⟩, hstt⟩ := cw
  obtain ⟨hx, hb, hml, ho, -⟩ := S
  intro T hT X
  rcases vx_callS X hx (bytes := bytes) (maxL := maxL) (ret := ret) ho hl hstt hini hcode hy hK hg (hsize.trans hml.symm) (argsL := As) (rest := rest) (fun sig h => hn.trans (hlen sig h)) hstack hW (by rw [hb]; exact hdg)
    (fun vm₁ hW₁ => ⟨hf.1, hf.2, hp.2 (T.setVm vm₁) hT hW₁⟩) with ⟨v, vm₁, ⟨U', l2, c2, s2⟩, hW₁, X', ⟨g', mk, t, L, e1, e2, hq, h1, hL, h2, h3⟩, st⟩ | ⟨q, vm₁, ⟨U', l2, c2, s2⟩, hW₁, X', ⟨g', mk, t, L, E, ce, e1, e2, hq, hce, hcv, hcl, h1, hL, h2, h3⟩, st⟩
  · dsimp only [Pt.U, Pt.locs, Pt.cells, Pt.slots] at X' e1 e2 h1 h2 h3 st
    subst h1; subst h2; subst h3
    exact Or.inl ⟨v, (T.setVm vm₁).calling g' mk As.toArray, t, U', L, hT, X', hL, e1, e2, hq, st⟩
  · dsimp only [Pt.U, Pt.locs, Pt.cells, Pt.slots] at X' e1 e2 h1 h2 h3 st hcl
    subst h1; subst h2; subst h3
    exact Or.inr ⟨q, (T.setVm vm₁).calling g' mk As.toArray, t, U', L, E, ce, hT, X', hL, e1, e2, hq, hce, hcv, vx_cls hW₁ hcl, st⟩
end Runs
section Rows
variable {p : Program} {l : Launch} {e : Env} {R : Room} {s : State} {m : MethodId} {args : Array Value} {below : List Frame} {meth : Method} {c : Code} {H : Heap} {locs : List Loc} {cells slots : Nat} {Q : State → Prop}
variable {mc ms : Nat} {free : Addr → Prop} {A0 A1 : Nat → Prop} {H0 : Heap} {a : Array Value} {pc : Nat} {ls : Array Slot} {st0 rest : List Value}
theorem vx_keep {st₀ t T' : State} {L : List Loc} (h0 : st₀.heap = H) (e1 : T'.heap = t.heap) (hS : va_S A0 H0 H locs) (hA : ∀ q, q < H.size → A1 q → A0 q) (hf : ∀ q, free q → A0 q) (hL : ∀ q ∈ L, free q.base) (hF : va_F A1 st₀ t) :
    H.size ≤ T'.heap.size ∧ (∀ q : Nat, q < H.size → ¬ A1 q → T'.heap[q]? = H[q]?) ∧ va_S A0 H0 T'.heap (locs ++ L) := by
  obtain ⟨hz, hk⟩ := hF
  rw [h0] at hz hk
  exact ⟨by rw [e1]; exact hz, fun q h1 h2 => by rw [e1]; exact hk q h1 h2,
    ⟨Nat.le_trans hS.1 (by rw [e1]; exact hz), fun q h1 h2 => by rw [e1, hk q (Nat.lt_of_lt_of_le h1 hS.1) (fun z => h2 (hA q (Nat.lt_of_lt_of_le h1 hS.1) z))]; exact hS.2.1 q h1 h2, fun q hq => by
      rcases List.mem_append.mp hq with h | h
      · exact hS.2.2 q h
      · exact hf _ (hL q h)⟩⟩
theorem vx_calli {S SX : Type} {post : Int32 → S → Prop} {px : SX → Prop} {B : S → State → Prop} {BX : String → SX → State → Prop} {AX : Nat → Prop} (hr : vx_Run p l e R s m args below meth c H locs cells slots mc ms (F0 m pc ls st0) rest (va_Qi post B A1 a) (vx_X px BX AX) free) (hS : va_S A0 H0 H locs) (hA : ∀ q, q < H.size → A1 q → A0 q) (hf : ∀ q, free q → A0 q) (hAX : ∀ q, q < H.size → AX q → A0 q)
    (kx : ∀ (E : String) (ce : Cell) (q9 : Addr) (u : SX) (t : State) (H1 : Heap) (locs1 : List Loc), t.heap = H1 → s.vm.Alike t.vm → px u → BX E u t → H.size ≤ H1.size → (∀ q : Nat, q < H.size → ¬ AX q → H1[q]? = H[q]?) → va_S A0 H0 H1 locs1 → H1[q9]? = some ce → ce.vm = .none → s.vm.findClass E = some ce.cls → vx_W p l e R s m args below meth c H1 locs1 (cells + mc) (slots + ms) Q (F0 m pc ls rest) q9)
    (kk : ∀ (r : Int32) (u : S) (t : State) (H1 : Heap) (locs1 : List Loc), t.heap = H1 → s.vm.Alike t.vm → post r u → B u t → H.size ≤ H1.size → (∀ q : Nat, q < H.size → ¬ A1 q → H1[q]? = H[q]?) → va_S A0 H0 H1 locs1 → W p l e R s m args below meth c H1 locs1 (cells + mc) (slots + ms) Q (F0 m (pc + 3) ls (.int r :: rest))) : W p l e R s m args below meth c H locs cells slots Q (F0 m pc ls st0) := by
  intro T hT X
  rcases hr T hT X with ⟨v, st₀, t, T', L, h0, X', hL, e1, e2, ⟨⟨r, u, hv, hp, hb⟩, hF⟩, st⟩ | ⟨q, st₀, t, T', L, E, ce, h0, X', hL, e1, e2, ⟨u, hp, hb, hF⟩, hce, hcv, hcl, st⟩
  · cases hv
    obtain ⟨k1, k2, k3⟩ := vx_keep h0 e1 hS hA hf hL hF
    obtain ⟨t2, a1, b1⟩ := kk r u t T'.heap (locs ++ L) e1.symm (by rw [← e2]; exact X'.warmed.alike) hp hb k1 k2 k3 T' rfl X'
    exact ⟨t2, st t2 a1, b1⟩
  · obtain ⟨k1, k2, k3⟩ := vx_keep h0 e1 hS hAX hf hL hF
    obtain ⟨t2, a1, b1⟩ := kx E ce q u t T'.heap (locs ++ L) e1.symm (by rw [← e2]; exact X'.warmed.alike) hp hb k1 k2 k3 (by rw [e1]; exact hce) hcv hcl T' rfl X'
    exact ⟨t2, st.trans a1, b1⟩
theorem vx_calll {S SX : Type} {post : Int64 → S → Prop} {px : SX → Prop} {B : S → State → Prop} {BX : String → SX → State → Prop} {AX : Nat → Prop} (hr : vx_Run p l e R s m args below meth c H locs cells slots mc ms (F0 m pc ls st0) rest (va_Ql post B A1 a) (vx_X px BX AX) free) (hS : va_S A0 H0 H locs) (hA : ∀ q, q < H.size → A1 q → A0 q) (hf : ∀ q, free q → A0 q) (hAX : ∀ q, q < H.size → AX q → A0 q)
    (kx : ∀ (E : String) (ce : Cell) (q9 : Addr) (u : SX) (t : State) (H1 : Heap) (locs1 : List Loc), t.heap = H1 → s.vm.Alike t.vm → px u → BX E u t → H.size ≤ H1.size → (∀ q : Nat, q < H.size → ¬ AX q → H1[q]? = H[q]?) → va_S A0 H0 H1 locs1 → H1[q9]? = some ce → ce.vm = .none → s.vm.findClass E = some ce.cls → vx_W p l e R s m args below meth c H1 locs1 (cells + mc) (slots + ms) Q (F0 m pc ls rest) q9)
    (kk : ∀ (r : Int64) (u : S) (t : State) (H1 : Heap) (locs1 : List Loc), t.heap = H1 → s.vm.Alike t.vm → post r u → B u t → H.size ≤ H1.size → (∀ q : Nat, q < H.size → ¬ A1 q → H1[q]? = H[q]?) → va_S A0 H0 H1 locs1 → W p l e R s m args below meth c H1 locs1 (cells + mc) (slots + ms) Q (F0 m (pc + 3) ls (.long r :: rest))) : W p l e R s m args below meth c H locs cells slots Q (F0 m pc ls st0) := by
  intro T hT X
  rcases hr T hT X with ⟨v, st₀, t, T', L, h0, X', hL, e1, e2, ⟨⟨r, u, hv, hp, hb⟩, hF⟩, st⟩ | ⟨q, st₀, t, T', L, E, ce, h0, X', hL, e1, e2, ⟨u, hp, hb, hF⟩, hce, hcv, hcl, st⟩
  · cases hv
    obtain ⟨k1, k2, k3⟩ := vx_keep h0 e1 hS hA hf hL hF
    obtain ⟨t2, a1, b1⟩ := kk r u t T'.heap (locs ++ L) e1.symm (by rw [← e2]; exact X'.warmed.alike) hp hb k1 k2 k3 T' rfl X'
    exact ⟨t2, st t2 a1, b1⟩
  · obtain ⟨k1, k2, k3⟩ := vx_keep h0 e1 hS hAX hf hL hF
    obtain ⟨t2, a1, b1⟩ := kx E ce q u t T'.heap (locs ++ L) e1.symm (by rw [← e2]; exact X'.warmed.alike) hp hb k1 k2 k3 (by rw [e1]; exact hce) hcv hcl T' rfl X'
    exact ⟨t2, st.trans a1, b1⟩
theorem vx_callf {S SX : Type} {post : UInt32 → S → Prop} {px : SX → Prop} {B : S → State → Prop} {BX : String → SX → State → Prop} {AX : Nat → Prop} (hr : vx_Run p l e R s m args below meth c H locs cells slots mc ms (F0 m pc ls st0) rest (va_Qf post B A1 a) (vx_X px BX AX) free) (hS : va_S A0 H0 H locs) (hA : ∀ q, q < H.size → A1 q → A0 q) (hf : ∀ q, free q → A0 q) (hAX : ∀ q, q < H.size → AX q → A0 q)
    (kx : ∀ (E : String) (ce : Cell) (q9 : Addr) (u : SX) (t : State) (H1 : Heap) (locs1 : List Loc), t.heap = H1 → s.vm.Alike t.vm → px u → BX E u t → H.size ≤ H1.size → (∀ q : Nat, q < H.size → ¬ AX q → H1[q]? = H[q]?) → va_S A0 H0 H1 locs1 → H1[q9]? = some ce → ce.vm = .none → s.vm.findClass E = some ce.cls → vx_W p l e R s m args below meth c H1 locs1 (cells + mc) (slots + ms) Q (F0 m pc ls rest) q9)
    (kk : ∀ (r : UInt32) (u : S) (t : State) (H1 : Heap) (locs1 : List Loc), t.heap = H1 → s.vm.Alike t.vm → post r u → B u t → H.size ≤ H1.size → (∀ q : Nat, q < H.size → ¬ A1 q → H1[q]? = H[q]?) → va_S A0 H0 H1 locs1 → W p l e R s m args below meth c H1 locs1 (cells + mc) (slots + ms) Q (F0 m (pc + 3) ls (.float r :: rest))) : W p l e R s m args below meth c H locs cells slots Q (F0 m pc ls st0) := by
  intro T hT X
  rcases hr T hT X with ⟨v, st₀, t, T', L, h0, X', hL, e1, e2, ⟨⟨r, u, hv, hp, hb⟩, hF⟩, st⟩ | ⟨q, st₀, t, T', L, E, ce, h0, X', hL, e1, e2, ⟨u, hp, hb, hF⟩, hce, hcv, hcl, st⟩
  · cases hv
    obtain ⟨k1, k2, k3⟩ := vx_keep h0 e1 hS hA hf hL hF
    obtain ⟨t2, a1, b1⟩ := kk r u t T'.heap (locs ++ L) e1.symm (by rw [← e2]; exact X'.warmed.alike) hp hb k1 k2 k3 T' rfl X'
    exact ⟨t2, st t2 a1, b1⟩
  · obtain ⟨k1, k2, k3⟩ := vx_keep h0 e1 hS hAX hf hL hF
    obtain ⟨t2, a1, b1⟩ := kx E ce q u t T'.heap (locs ++ L) e1.symm (by rw [← e2]; exact X'.warmed.alike) hp hb k1 k2 k3 (by rw [e1]; exact hce) hcv hcl T' rfl X'
    exact ⟨t2, st.trans a1, b1⟩
theorem vx_calld {S SX : Type} {post : UInt64 → S → Prop} {px : SX → Prop} {B : S → State → Prop} {BX : String → SX → State → Prop} {AX : Nat → Prop} (hr : vx_Run p l e R s m args below meth c H locs cells slots mc ms (F0 m pc ls st0) rest (va_Qd post B A1 a) (vx_X px BX AX) free) (hS : va_S A0 H0 H locs) (hA : ∀ q, q < H.size → A1 q → A0 q) (hf : ∀ q, free q → A0 q) (hAX : ∀ q, q < H.size → AX q → A0 q)
    (kx : ∀ (E : String) (ce : Cell) (q9 : Addr) (u : SX) (t : State) (H1 : Heap) (locs1 : List Loc), t.heap = H1 → s.vm.Alike t.vm → px u → BX E u t → H.size ≤ H1.size → (∀ q : Nat, q < H.size → ¬ AX q → H1[q]? = H[q]?) → va_S A0 H0 H1 locs1 → H1[q9]? = some ce → ce.vm = .none → s.vm.findClass E = some ce.cls → vx_W p l e R s m args below meth c H1 locs1 (cells + mc) (slots + ms) Q (F0 m pc ls rest) q9)
    (kk : ∀ (r : UInt64) (u : S) (t : State) (H1 : Heap) (locs1 : List Loc), t.heap = H1 → s.vm.Alike t.vm → post r u → B u t → H.size ≤ H1.size → (∀ q : Nat, q < H.size → ¬ A1 q → H1[q]? = H[q]?) → va_S A0 H0 H1 locs1 → W p l e R s m args below meth c H1 locs1 (cells + mc) (slots + ms) Q (F0 m (pc + 3) ls (.double r :: rest))) : W p l e R s m args below meth c H locs cells slots Q (F0 m pc ls st0) := by
  intro T hT X
  rcases hr T hT X with ⟨v, st₀, t, T', L, h0, X', hL, e1, e2, ⟨⟨r, u, hv, hp, hb⟩, hF⟩, st⟩ | ⟨q, st₀, t, T', L, E, ce, h0, X', hL, e1, e2, ⟨u, hp, hb, hF⟩, hce, hcv, hcl, st⟩
  · cases hv
    obtain ⟨k1, k2, k3⟩ := vx_keep h0 e1 hS hA hf hL hF
    obtain ⟨t2, a1, b1⟩ := kk r u t T'.heap (locs ++ L) e1.symm (by rw [← e2]; exact X'.warmed.alike) hp hb k1 k2 k3 T' rfl X'
    exact ⟨t2, st t2 a1, b1⟩
  · obtain ⟨k1, k2, k3⟩ := vx_keep h0 e1 hS hAX hf hL hF
    obtain ⟨t2, a1, b1⟩ := kx E ce q u t T'.heap (locs ++ L) e1.symm (by rw [← e2]; exact X'.warmed.alike) hp hb k1 k2 k3 (by rw [e1]; exact hce) hcv hcl T' rfl X'
    exact ⟨t2, st.trans a1, b1⟩
theorem vx_callv {S SX : Type} {post : S → Prop} {px : SX → Prop} {B : S → State → Prop} {BX : String → SX → State → Prop} {AX : Nat → Prop} (hr : vx_Run p l e R s m args below meth c H locs cells slots mc ms (F0 m pc ls st0) rest (va_Qv post B A1 a) (vx_X px BX AX) free) (hS : va_S A0 H0 H locs) (hA : ∀ q, q < H.size → A1 q → A0 q) (hf : ∀ q, free q → A0 q) (hAX : ∀ q, q < H.size → AX q → A0 q)
    (kx : ∀ (E : String) (ce : Cell) (q9 : Addr) (u : SX) (t : State) (H1 : Heap) (locs1 : List Loc), t.heap = H1 → s.vm.Alike t.vm → px u → BX E u t → H.size ≤ H1.size → (∀ q : Nat, q < H.size → ¬ AX q → H1[q]? = H[q]?) → va_S A0 H0 H1 locs1 → H1[q9]? = some ce → ce.vm = .none → s.vm.findClass E = some ce.cls → vx_W p l e R s m args below meth c H1 locs1 (cells + mc) (slots + ms) Q (F0 m pc ls rest) q9)
    (kk : ∀ (u : S) (t : State) (H1 : Heap) (locs1 : List Loc), t.heap = H1 → s.vm.Alike t.vm → post u → B u t → H.size ≤ H1.size → (∀ q : Nat, q < H.size → ¬ A1 q → H1[q]? = H[q]?) → va_S A0 H0 H1 locs1 → W p l e R s m args below meth c H1 locs1 (cells + mc) (slots + ms) Q (F0 m (pc + 3) ls (rest))) : W p l e R s m args below meth c H locs cells slots Q (F0 m pc ls st0) := by
  intro T hT X
  rcases hr T hT X with ⟨v, st₀, t, T', L, h0, X', hL, e1, e2, ⟨⟨u, hv, hp, hb⟩, hF⟩, st⟩ | ⟨q, st₀, t, T', L, E, ce, h0, X', hL, e1, e2, ⟨u, hp, hb, hF⟩, hce, hcv, hcl, st⟩
  · cases hv
    obtain ⟨k1, k2, k3⟩ := vx_keep h0 e1 hS hA hf hL hF
    obtain ⟨t2, a1, b1⟩ := kk u t T'.heap (locs ++ L) e1.symm (by rw [← e2]; exact X'.warmed.alike) hp hb k1 k2 k3 T' rfl X'
    exact ⟨t2, st t2 a1, b1⟩
  · obtain ⟨k1, k2, k3⟩ := vx_keep h0 e1 hS hAX hf hL hF
    obtain ⟨t2, a1, b1⟩ := kx E ce q u t T'.heap (locs ++ L) e1.symm (by rw [← e2]; exact X'.warmed.alike) hp hb k1 k2 k3 (by rw [e1]; exact hce) hcv hcl T' rfl X'
    exact ⟨t2, st.trans a1, b1⟩
/-- caught by the row x of this method's table; the rows ahead don't take it -/
theorem vx_catch {own name : String} {E : String} {ce : Cell} {q : Addr} (hown : s.vm.findClass own = some m.cls) (pre : List ExceptionTableEntry) (x : ExceptionTableEntry) (suf : List ExceptionTableEntry) (hsplit : c.exceptionTable.toList = pre ++ x :: suf)
    (hpass : ∀ z ∈ pre, covers z pc = false ∨ (z.catchType ≠ 0 ∧ ∃ nm : String, (Cond.classLink own z.catchType nm).before args s = true ∧ va_Nc E nm s)) (hx : covers x pc = true) (h0 : x.catchType ≠ 0)
    (hlink : (Cond.classLink own x.catchType name).before args s = true) (hcast : (Cond.castable E name).before args s = true) (hcell : H[q]? = some ce) (hv : ce.vm = .none) (hcl : s.vm.findClass E = some ce.cls)
    (kk : W p l e R s m args below meth c H locs cells slots Q (F0 m x.handlerPc ls [.ref q])) : vx_W p l e R s m args below meth c H locs cells slots Q (F0 m pc ls rest) q := by
  intro T hT X
  have hpl : e.platform.magicAccessors = ({} : Platform).magicAccessors := by rw [X.admits.platform]
  obtain ⟨c3, c4, hc3, hc4, hasg⟩ := Cond.castable_spec hcast
  cases Option.some.inj (hc3.symm.trans hcl)
  obtain ⟨c5, hc5, hcl5⟩ := Cond.classLink_spec hown hlink e.platform hpl
  cases Option.some.inj (hc4.symm.trans hc5)
  obtain ⟨vm', X', st⟩ := X.thenCaughtThrough q (g := F0 m pc ls rest) rfl (Steps.refl _) (by rw [hT]; exact hcell) (by rw [hv]; rfl) (by obtain ⟨k9, h9, -⟩ := Vm.findClass_spec hcl; exact ⟨k9, h9⟩) pre x suf hsplit
    (fun z hz => by
      rcases hpass z hz with h | ⟨hz0, nm, hl1, hn1⟩
      · exact Or.inl h
      · obtain ⟨c6, hc6, hcl6⟩ := Cond.classLink_spec hown hl1 e.platform hpl
        obtain ⟨a8, b8, h1, h2, h3⟩ := hn1
        cases Option.some.inj (h1.symm.trans hcl)
        cases Option.some.inj (h2.symm.trans hc6)
        exact Or.inr ⟨hz0, _, hcl6, h3⟩) hx (Or.inr ⟨h0, c4, hcl5, hasg⟩)
  obtain ⟨t, a1, b1⟩ := kk (T.setVm vm') hT X'
  exact ⟨t, st.trans a1, b1⟩
end Rows
section Ends
variable {p : Program} {l : Launch} {e : Env} {R : Room} {s : State} {m : MethodId} {args : Array Value} {below : List Frame} {meth : Method} {c : Code} {H : Heap} {locs : List Loc} {cells slots : Nat} {Q : State → Prop}
variable {mc ms : Nat} {free : Addr → Prop} {A0 A1 : Nat → Prop} {H0 : Heap} {a : Array Value} {ls : Array Slot} {st0 rest : List Value}
variable {Qc : Array Value → State → Outcome → State → Prop} {XC : String → State → State → Prop}
/-- what a body that may throw owes at its end -/
def vx_MQ (below : List Frame) (Qc : Array Value → State → Outcome → State → Prop) (XC : String → State → State → Prop) (a : Array Value) (s : State) (mc ms : Nat) (free : Addr → Prop) : State → Prop := fun t =>
  ∃ o, t.status = .running ∧ Ended t below o ∧ vx_Q Qc XC mc ms free a s o t
theorem vx_ret {g : JFrame} {mc ms : Nat} (k : W p l e R s m args below meth c H locs cells slots (MQ below Qc args s mc ms free) g) : W p l e R s m args below meth c H locs cells slots (vx_MQ below Qc XC args s mc ms free) g := by
  intro T hT X
  obtain ⟨t, a1, o, b1, b2, b3, b4⟩ := k T hT X
  exact ⟨t, a1, o, b1, b2, Or.inl ⟨b3, b4⟩⟩
/-- not caught here: it goes on to the caller -/
theorem vx_widen {g : JFrame} {q : Addr} {k n : Nat} (h1 : cells ≤ k) (h2 : slots ≤ n) (kk : vx_W p l e R s m args below meth c H locs k n Q g q) : vx_W p l e R s m args below meth c H locs cells slots Q g q := fun T hT X => kk T hT (stand_widen X h1 h2)
theorem vx_out {pc : Nat} {E : String} {ce : Cell} {q : Addr} {mc ms : Nat} (hout : ∀ x ∈ c.exceptionTable.toList, covers x pc = false) (hlocks : meth.locks = false) (hcell : H[q]? = some ce) (hv : ce.vm = .none) (hcl : s.vm.findClass E = some ce.cls)
    (hx : ∀ t : State, t.heap = H → s.vm.Alike t.vm → XC E s t) (hf : ∀ z ∈ locs, free z.base) (hc : cells ≤ mc) (hs : slots ≤ ms) :
    vx_W p l e R s m args below meth c H locs cells slots (vx_MQ below Qc XC args s mc ms free) (F0 m pc ls rest) q := by
  intro T hT X
  obtain ⟨st1, hrun, hend, hW, hsm⟩ := X.leaveThrown q (g := F0 m pc ls rest) rfl rfl rfl hout hlocks
  have hcell9 : (T.setFrames (.throwing q :: below)).heap[q]? = some ce := by
    show T.heap[q]? = some ce
    rw [hT]; exact hcell
  exact ⟨_, st1, .threw q, hrun, hend, Or.inr ⟨q, rfl, E, ce, locs, hx _ hT hW.alike, hcell9, hv, hcl, hW, hsm.mono hc hs, hf⟩⟩
theorem vx_frame {U : State} {k n : Nat} (h : s.sameButNew ({ U with vm := s.vm } : State) locs k n) : s.heap.size ≤ U.heap.size ∧ ∀ q : Nat, q < s.heap.size → (∀ z ∈ locs, z.base ≠ q) → U.heap[q]? = s.heap[q]? := by
  obtain ⟨-, h2, -, -, -, h6⟩ := h
  refine ⟨h2, fun q hq hz => ?_⟩
  obtain ⟨c9, e1, e2, e3, e4⟩ := h6 q _ (Array.getElem?_eq_getElem hq)
  have hs : c9.slots = (s.heap[q]).slots := Array.ext_getElem? fun i => e4 i fun hm => hz _ hm rfl
  have h9 : c9 = s.heap[q] := by
    rw [hs] at e2
    exact e2
  have e5 : U.heap[q]? = some c9 := e1
  rw [e5, h9, Array.getElem?_eq_getElem hq]
/-- the words of a throw but the four that speak of the heap -/
def vx_no (w : Cond) : Bool := decide (w ≠ .isRef (.static Bundle.tN "UNASSIGNED_STACK" Bundle.steD)) && decide (w ≠ .isRef (.static Bundle.tN "SUPPRESSED_SENTINEL" Bundle.listD)) && decide (w ≠ .laysStatic Bundle.tN "UNASSIGNED_STACK" Bundle.steD) && decide (w ≠ .laysStatic Bundle.tN "SUPPRESSED_SENTINEL" Bundle.listD)
def vx_at0 (own : String) (ic : Nat) (X : String) (names : List String) : List Cond := (Bundle.ownAtoms0 own ic X names).filter vx_no
def vx_atS (own : String) (ic : Nat) (X : String) (names : List String) : List Cond := (Bundle.ownAtoms own ic X names).filter vx_no
/-- a word that the tables alone decide, or a good one -/
def vx_ot (w : Cond) : Bool := w.onTables || goodWord w
theorem vx_ot_at {args a' : Array Value} {s U : State} {w : Cond} (hW : s.WarmedH U.vm) (hvm : s.vm = U.vm) (hg : vx_ot w = true) (h : w.before args s = true) : w.before a' U = true := by
  simp only [vx_ot, Bool.or_eq_true] at hg
  rcases hg with hg | hg
  · exact va_tabs hg hvm h
  · exact word_at hW (good_of_word hg) h
/-- a list's words: the good ones out of the method's own list, the others by premises of their own -/
theorem vx_hat {args : Array Value} {s : State} {L B : List Cond} (h1 : ∀ w ∈ L.filter goodWord, w.before args s = true) (h2 : ∀ w ∈ L.filter (fun w => !goodWord w), w ∈ B) (h3 : ∀ w ∈ B, w.before args s = true) : ∀ w ∈ L, w.before args s = true := by
  intro w hw
  by_cases g : goodWord w = true
  · exact h1 w (List.mem_filter.mpr ⟨hw, g⟩)
  · refine h3 w (h2 w (List.mem_filter.mpr ⟨hw, ?_⟩))
    show (!goodWord w) = true
    cases hgw : goodWord w
    · rfl
    · exact absurd hgw g
theorem vx_c {args : Array Value} {s : State} {w : Cond} {B : List Cond} (h : w.before args s = true) (t : ∀ w ∈ B, w.before args s = true) : ∀ w' ∈ w :: B, w'.before args s = true := fun w' h' => (List.mem_cons.mp h').elim (fun e => by rw [e]; exact h) (t w')
theorem vx_n {args : Array Value} {s : State} : ∀ w ∈ ([] : List Cond), w.before args s = true := fun _ h => nomatch h
theorem vx_own {args : Array Value} {s : State} {L : List Cond} (h1 : ∀ w ∈ L.filter vx_no, w.before args s = true)
    (hU : (Cond.isRef (.static Bundle.tN "UNASSIGNED_STACK" Bundle.steD)).before args s = true) (hN : (Cond.isRef (.static Bundle.tN "SUPPRESSED_SENTINEL" Bundle.listD)).before args s = true)
    (lU : (Cond.laysStatic Bundle.tN "UNASSIGNED_STACK" Bundle.steD).before args s = true) (lN : (Cond.laysStatic Bundle.tN "SUPPRESSED_SENTINEL" Bundle.listD).before args s = true) : ∀ w ∈ L, w.before args s = true := by
  intro w hw
  by_cases e1 : w = .isRef (.static Bundle.tN "UNASSIGNED_STACK" Bundle.steD)
  · rw [e1]; exact hU
  · by_cases e2 : w = .isRef (.static Bundle.tN "SUPPRESSED_SENTINEL" Bundle.listD)
    · rw [e2]; exact hN
    · by_cases e3 : w = .laysStatic Bundle.tN "UNASSIGNED_STACK" Bundle.steD
      · rw [e3]; exact lU
      · by_cases e4 : w = .laysStatic Bundle.tN "SUPPRESSED_SENTINEL" Bundle.listD
        · rw [e4]; exact lN
        · exact h1 w (List.mem_filter.mpr ⟨hw, by unfold vx_no; rw [decide_eq_true e1, decide_eq_true e2, decide_eq_true e3, decide_eq_true e4]; rfl⟩)
/-- where a static field lies, its class's statics cell in H -/
def vx_L (C n d : String) (A : Nat → Prop) (U : State) (H : Heap) : Prop := ∃ (c : ClassId) (k : Class) (i : Nat) (f : Field) (a : Nat) (cell : Cell), U.vm.findClass C = some c ∧ U.fieldFound? C n d = some (c, k, i, f) ∧ f.isStatic = true ∧ k.statics = some a ∧ H[a]? = some cell ∧ cell.vm.isStatics = true ∧ cell.cls = c ∧ f.slot < cell.slots.size ∧ k.staticTypes[f.slot]? = some f.type ∧ ¬ A a
theorem vx_L.moved {C n d : String} {A : Nat → Prop} {u U : State} {H : Heap} (hvm : u.vm.Alike U.vm) (h : vx_L C n d A u H) : vx_L C n d A U H := by
  obtain ⟨c, k, i, f, a, cell, h1, h2, h3, h4, h5, h6, h7, h8, h9, h10⟩ := h
  obtain ⟨k', hi', he⟩ := State.fieldFound?_setVm hvm h2
  exact ⟨c, k', i, f, a, cell, by rw [hvm.findClass]; exact h1, hi', h3, by rw [he]; exact h4, h5, h6, h7, h8, by rw [he]; exact h9, h10⟩
theorem vx_L.kept {C n d : String} {A : Nat → Prop} {U : State} {H H1 : Heap} (h : vx_L C n d A U H) (hq : ∀ a : Nat, a < H.size → ¬ A a → H1[a]? = H[a]?) : vx_L C n d A U H1 := by
  obtain ⟨c, k, i, f, a, cell, h1, h2, h3, h4, h5, h6, h7, h8, h9, h10⟩ := h
  exact ⟨c, k, i, f, a, cell, h1, h2, h3, h4, by rw [hq a (Array.getElem?_eq_some_iff.mp h5).1 h10]; exact h5, h6, h7, h8, h9, h10⟩
theorem vx_L.narrow {C n d : String} {A B : Nat → Prop} {U : State} {H : Heap} (h : vx_L C n d A U H) (hAB : ∀ q, B q → A q) : vx_L C n d B U H := by
  obtain ⟨c, k, i, f, a, cell, h1, h2, h3, h4, h5, h6, h7, h8, h9, h10⟩ := h
  exact ⟨c, k, i, f, a, cell, h1, h2, h3, h4, h5, h6, h7, h8, h9, fun z => h10 (hAB _ z)⟩
theorem vx_L.word {C n d : String} {A : Nat → Prop} {s : State} {args : Array Value} (h : vx_L C n d A s s.heap) : (Cond.laysStatic C n d).before args s = true := by
  obtain ⟨c, k, i, f, a, cell, h1, h2, h3, h4, h5, h6, h7, h8, h9, -⟩ := h
  show (Cond.laysStatic C n d).holds args s none s [] = true
  exact Cond.laysStatic_of h1 h2 h3 h4 h5 h6 h7 h8 h9
/-- .. and what it holds: null or some reference -/
def vx_Zq (C n d : String) (A : Nat → Prop) (U : State) (H : Heap) : Prop := va_Zq C n d A U H ∧ vx_L C n d A U H
theorem vx_Zq.moved {C n d : String} {A : Nat → Prop} {u U : State} {H : Heap} (hvm : u.vm.Alike U.vm) (h : vx_Zq C n d A u H) : vx_Zq C n d A U H := ⟨va_Zq.moved hvm h.1, vx_L.moved hvm h.2⟩
theorem vx_Zq.kept {C n d : String} {A : Nat → Prop} {U : State} {H H1 : Heap} (h : vx_Zq C n d A U H) (hq : ∀ a : Nat, a < H.size → ¬ A a → H1[a]? = H[a]?) : vx_Zq C n d A U H1 := ⟨va_Zq.kept h.1 hq, vx_L.kept h.2 hq⟩
theorem vx_Zq.narrow {C n d : String} {A B : Nat → Prop} {U : State} {H : Heap} (h : vx_Zq C n d A U H) (hAB : ∀ q, B q → A q) : vx_Zq C n d B U H := ⟨va_Zq.narrow h.1 hAB, vx_L.narrow h.2 hAB⟩
theorem vx_Zqof {args : Array Value} {s : State} {C n d : String} {A : Nat → Prop} (hl : (Cond.laysStatic C n d).before args s = true) (hini : (Cond.initialized C).before args s = true) (h : (Cond.isRef (.static C n d)).before args s = true) (hA : ∀ a : Nat, a < s.heap.size → ¬ A a) : vx_Zq C n d A s s.heap := by
  refine ⟨va_Zqof hl hini h hA, ?_⟩
  obtain ⟨c, k, i, f, a, cell, h1, h2, h3, h4, h5, h6, h7, h8, h9⟩ := Cond.laysStatic_spec hl
  exact ⟨c, k, i, f, a, cell, h1, h2, h3, h4, h5, h6, h7, h8, h9, hA a (Array.getElem?_eq_some_iff.mp h5).1⟩
theorem vx_isRef {C n d : String} {v : Value} {A : Nat → Prop} {s : State} {args : Array Value} (h : va_Z C n d v A s s.heap) (hv : v.isRef = true) : (Cond.isRef (.static C n d)).before args s = true := by
  obtain ⟨cf, kf, fi, f, a, cell, h1, h2, h3, h4, h5, h6, h7, -⟩ := h
  have he : (Term.static C n d).eval args s none [] s = some v := by
    simp [Term.eval, State.fieldNamed?, h1, h2, h4, h5, h6, h7]
  simp only [Cond.before, Cond.holds, Cond.value, he]
  cases v <;> simp_all [Value.isRef]
theorem vx_isRefq {C n d : String} {A : Nat → Prop} {s : State} {args : Array Value} (h : va_Zq C n d A s s.heap) : (Cond.isRef (.static C n d)).before args s = true := by
  rcases h with h | ⟨t, h⟩
  · exact vx_isRef h rfl
  · exact vx_isRef h rfl
/-- the same frame, seen from here: as if the method were called anew in this heap -/
theorem vx_rebase {T : State} (X : Stand p l e R s m args below meth c T locs cells slots) {R' : Room} (hf : R'.frames ≤ R.frames) (hl : R'.locals ≤ R.locals) (hc : cells + R'.cells ≤ R.cells) (hs : slots + R'.slots ≤ R.slots) :
    Stand p l e R' ((T.setVm s.vm).setFrames (.invoking m args :: below)) m args below meth c T [] 0 0 := by
  have htop : (T.setVm s.vm).topJava?.isSome := X.here.top
  have hF : ((T.setVm s.vm).setFrames (.invoking m args :: below)).frames = .invoking m args :: below := State.frames_setFrames _ (State.cur_lt_of_top htop)
  obtain ⟨g₀, hg0⟩ := Option.isSome_iff_exists.mp htop
  obtain ⟨r, hr⟩ := State.topJava?_eq_some.mp hg0
  have hl9 : e.platform.stackLimits (T.setVm s.vm).me = e.platform.stackLimits s.me := X.limits
  have hb9 : (T.setVm s.vm).me.stackBytes = s.me.stackBytes := X.bytes
  refine ⟨X.admits, X.cas, X.clock, hF, ?_, X.hears, X.method, X.code, X.here, X.tail, X.warmed, ?_, ?_, ?_⟩
  · have h := X.room
    have hU : ((T.setVm s.vm).setFrames (.invoking m args :: below)).localsInUse = s.localsInUse := by
      rw [State.localsInUse_invoking hF (meth := meth) (c := c) X.method X.code, State.localsInUse_invoking X.frames X.method X.code]
    simp only [State.hasRoom, Bool.and_eq_true, decide_eq_true_eq] at h ⊢
    obtain ⟨⟨⟨⟨h1, h2, h3, h4, h5, h6⟩, h7⟩, h8⟩, h9⟩ := h
    rw [X.frames, List.length_cons] at h2 h3
    have q1 := X.heapSize
    have q2 := X.used
    simp only [hF, hU, List.length_cons, State.stackLimits_setFrames, State.stackBytes_setFrames, hl9, hb9]
    refine ⟨⟨⟨⟨by omega, by omega, by omega, by omega, by omega, h6⟩, ?_⟩, ?_⟩, X.book⟩
    · show T.heap.size + R'.cells ≤ e.platform.maxCells
      omega
    · show T.slotsUsed + R'.slots ≤ e.platform.maxSlots
      omega
  · rw [State.stackLimits_setFrames]; rfl
  · rw [State.stackBytes_setFrames]; rfl
  · refine ⟨?_, Nat.le_refl _, Nat.le_refl _, ?_, ?_, fun a c9 h9 => ⟨c9, h9, rfl, rfl, fun _ _ => rfl⟩⟩
    · obtain ⟨t, ht, -⟩ := State.frames_cons hr
      show T.setVm s.vm = { ((T.setVm s.vm).setFrames (.invoking m args :: below)).setFrames (T.setVm s.vm).frames with heap := T.heap, slotsUsed := T.slotsUsed }
      rw [State.setFrames_setFrames, State.setFrames_self ht]
      rfl
    · show T.slotsUsed = T.slotsUsed + ((T.heap.toList.drop T.heap.size).map (·.slots.size)).sum
      rw [List.drop_eq_nil_of_le (Nat.le_of_eq Array.length_toList)]
      rfl
    · show ((T.heap.toList.drop T.heap.size).map (·.slots.size)).sum ≤ 0
      rw [List.drop_eq_nil_of_le (Nat.le_of_eq Array.length_toList)]
      exact Nat.le_refl _
/-- 'throw new E()': new; dup; invokespecial; athrow -/
theorem vx_throw0 {cc : ByteArray} {pc : Nat} (hexec : p.tables.exec = Jvm.exec) (hb : c.code = cc) (hl : l.stackTraces = false) {own cls : String} {names : List String} {ik ic mc ms : Nat} {A : Nat → Prop}
    (hown : s.vm.findClass own = some m.cls) (hcls : Bundle.fit cls = true) (hnames : ∀ n ∈ names, Bundle.fit n = true)
    (hk : (Cond.classLink own ik cls).before args s = true) (hini : (Cond.initialized cls).before args s = true) (hat : ∀ w ∈ vx_at0 own ic cls names, w.before args s = true)
    (hgood : ∀ w ∈ Cond.classLink own ik cls :: Cond.initialized cls :: vx_at0 own ic cls names, vx_ot w = true)
    (hU : vx_Zq Bundle.tN "UNASSIGNED_STACK" Bundle.steD A s s.heap) (hN : vx_Zq Bundle.tN "SUPPRESSED_SENTINEL" Bundle.listD A s s.heap) (hS : va_S A s.heap H locs) (hsize : ls.size = c.maxLocals)
    (d0 : decode cc pc = .ok (.new ik, 3)) (d3 : decode cc (pc + 3) = .ok (.dup, 1)) (d4 : decode cc (pc + 4) = .ok (.invokespecial ic, 3)) (d7 : decode cc (pc + 7) = .ok (.athrow, 1))
    (hout : ∀ x ∈ c.exceptionTable.toList, covers x (pc + 7) = false)
    (hRframes : names.length + 3 < R.frames) (hRlocals : (rest.map fun v => v.category).sum + (13 * (names.length + 1) + 42) ≤ R.locals) (hRcells : cells + 1 ≤ R.cells) (hRslots : slots + 6 ≤ R.slots) (hlocks : meth.locks = false)
    (hx : ∀ t : State, s.vm.Alike t.vm → H.size ≤ t.heap.size → (∀ q : Nat, q < H.size → t.heap[q]? = H[q]?) → XC cls s t)
    (hf : ∀ z ∈ locs, free z.base) (hc : cells + 1 ≤ mc) (hs : slots + 6 ≤ ms) :
    W p l e R s m args below meth c H locs cells slots (vx_MQ below Qc XC args s mc ms free) (F0 m pc ls rest) := by
  intro T hT X
  have htr : e.platform.stackTraces = false := (show e.platform.stackTraces = l.stackTraces by rw [X.admits.platform]).trans hl
  have Y := vx_rebase X (R' := { frames := R.frames, locals := R.locals, cells := 1, slots := 6 }) (Nat.le_refl _) (Nat.le_refl _) hRcells hRslots
  obtain ⟨s', hA⟩ : ∃ z, z = (T.setVm s.vm).setFrames (.invoking m args :: below) := ⟨_, rfl⟩
  rw [← hA] at Y
  have hvm : s'.vm = s.vm := by rw [hA]; rfl
  have hhp : s'.heap = H := by rw [hA]; exact hT
  have hW0 : s.WarmedH s'.vm := by rw [hvm]; exact State.WarmedH.refl s
  have hat' : ∀ w ∈ vx_at0 own ic cls names, w.before args s' = true := fun w hw => vx_ot_at hW0 hvm.symm (hgood w (List.mem_cons_of_mem _ (List.mem_cons_of_mem _ hw))) (hat w hw)
  have hk' : (Cond.classLink own ik cls).before args s' = true := vx_ot_at hW0 hvm.symm (hgood _ List.mem_cons_self) hk
  have hini' : (Cond.initialized cls).before args s' = true := vx_ot_at hW0 hvm.symm (hgood _ (List.mem_cons_of_mem _ List.mem_cons_self)) hini
  have hU' : vx_Zq Bundle.tN "UNASSIGNED_STACK" Bundle.steD A s' s'.heap := by rw [hhp]; exact vx_Zq.moved hW0.alike (hU.kept hS.2.1)
  have hN' : vx_Zq Bundle.tN "SUPPRESSED_SENTINEL" Bundle.listD A s' s'.heap := by rw [hhp]; exact vx_Zq.moved hW0.alike (hN.kept hS.2.1)
  have h : ∀ w ∈ Bundle.ownAtoms0 own ic cls names, w.before args s' = true := vx_own hat' (vx_isRefq hU'.1) (vx_isRefq hN'.1) hU'.2.word hN'.2.word
  have hown' : s'.vm.findClass own = some m.cls := by rw [hvm]; exact hown
  have hins : (Cond.instantiable cls 6).before args s' = true := h _ (by simp [Bundle.ownAtoms0])
  obtain ⟨vm₁, cX, kX, hfX, hkX, -, -, X₁, st1⟩ := Y.newCold hexec (own := own) (C := cls) (index := ik) (n := 6) hown' hk' hins hini'
    (g := F0 m pc ls rest) rfl (by rw [hb]; exact d0) (Nat.le_refl _) (Nat.le_refl _)
  generalize hT1 : (T.setVm vm₁).pushCell { cls := cX, slots := kX.instanceTypes.map defaultValue, vm := .none } = T1 at X₁ st1
  have hcat : (Value.ref T.heap.size).category = 1 := rfl
  have hcellA : T1.heap[T.heap.size]? = some (freshCell cX kX) := by rw [← hT1]; exact State.heap_pushCell_size _ _
  have d3' : decode c.code (pc + 3) = .ok (.dup, 1) := by rw [hb]; exact d3
  obtain ⟨U, hsteps, hrun, hend, hW, hsame, ce, hce, hO⟩ := X₁.ctorThrow0 hexec htr (own := own) (cls := cls) (names := names) (ic := ic) hown' hcls hnames h (fun x hx => nomatch hx) hfX hkX hcellA (by rw [hhp, hT]; exact Nat.le_refl _)
    (g := { method := m, pc := pc + 4, locals := ls, stack := .ref T.heap.size :: .ref T.heap.size :: rest, locked := none }) rfl hsize rfl rfl (rest := rest) rfl
    (by rw [hb]; exact d4) (by rw [hb]; exact d7) hout hRframes (by simp only [List.map_cons, List.sum_cons, hcat]; omega) hlocks
  obtain ⟨f1, f2⟩ := vx_frame hsame
  rw [hhp] at f1 f2
  have hWs : s.WarmedH U.vm := State.WarmedH.trans hW0 hW
  have hcl : s.vm.findClass cls = some ce.cls := by
    have h9 := hO.cls
    rw [hvm] at h9
    exact h9
  have hall : s.sameButNew ({ U with vm := s.vm } : State) locs mc ms := by
    subst hA
    obtain ⟨e1, e2⟩ := hsame
    rw [State.setFrames_setFrames] at e1
    have h2 : (T.setVm s.vm).sameButNew ({ U with vm := s.vm } : State) [] (0 + 1) (0 + 6) := ⟨e1, e2⟩
    have h3 := X.same.trans h2
    rw [List.append_nil] at h3
    exact h3.mono hc hs
  refine ⟨U, ?_, .threw T.heap.size, hrun, hend, Or.inr ⟨T.heap.size, rfl, cls, ce, locs, hx U hWs.alike f1 (fun q hq => f2 q hq (fun z hz => nomatch hz)), hce, hO.vm, hcl, hWs, hall, hf⟩⟩
  refine st1 _ ?_
  show Steps p.tables e below (T1.setTop { method := m, pc := pc + 3, locals := ls, stack := .ref T.heap.size :: rest, locked := none }) _
  jvm_step X₁.here [X₁.here.top, hexec, d3', Value.category]
  exact hsteps
/-- 'throw new E("text")': new; dup; ldc; invokespecial; athrow -/
theorem vx_throwS {cc : ByteArray} {pc : Nat} (hexec : p.tables.exec = Jvm.exec) (hb : c.code = cc) (hl : l.stackTraces = false) {own cls text : String} {names : List String} {ik is ic mc ms sa : Nat} {A : Nat → Prop}
    (hown : s.vm.findClass own = some m.cls) (hcls : Bundle.fit cls = true) (hnames : ∀ n ∈ names, Bundle.fit n = true)
    (hk : (Cond.classLink own ik cls).before args s = true) (hini : (Cond.initialized cls).before args s = true) (hstr : vk_R own is text sa s) (hat : ∀ w ∈ vx_atS own ic cls names, w.before args s = true)
    (hgood : ∀ w ∈ Cond.classLink own ik cls :: Cond.initialized cls :: vx_atS own ic cls names, vx_ot w = true)
    (hU : vx_Zq Bundle.tN "UNASSIGNED_STACK" Bundle.steD A s s.heap) (hN : vx_Zq Bundle.tN "SUPPRESSED_SENTINEL" Bundle.listD A s s.heap) (hS : va_S A s.heap H locs) (hsize : ls.size = c.maxLocals)
    (d0 : decode cc pc = .ok (.new ik, 3)) (d3 : decode cc (pc + 3) = .ok (.dup, 1)) (d4 : decode cc (pc + 4) = .ok (.ldc is, 2)) (d6 : decode cc (pc + 6) = .ok (.invokespecial ic, 3)) (d9 : decode cc (pc + 9) = .ok (.athrow, 1))
    (hout : ∀ x ∈ c.exceptionTable.toList, covers x (pc + 9) = false)
    (hRframes : names.length + 3 < R.frames) (hRlocals : (rest.map fun v => v.category).sum + (13 * (names.length + 1) + 43) ≤ R.locals) (hRcells : cells + 1 ≤ R.cells) (hRslots : slots + 6 ≤ R.slots) (hlocks : meth.locks = false)
    (hx : ∀ t : State, s.vm.Alike t.vm → H.size ≤ t.heap.size → (∀ q : Nat, q < H.size → t.heap[q]? = H[q]?) → XC cls s t)
    (hf : ∀ z ∈ locs, free z.base) (hc : cells + 1 ≤ mc) (hs : slots + 6 ≤ ms) :
    W p l e R s m args below meth c H locs cells slots (vx_MQ below Qc XC args s mc ms free) (F0 m pc ls rest) := by
  intro T hT X
  have htr : e.platform.stackTraces = false := (show e.platform.stackTraces = l.stackTraces by rw [X.admits.platform]).trans hl
  have Y := vx_rebase X (R' := { frames := R.frames, locals := R.locals, cells := 1, slots := 6 }) (Nat.le_refl _) (Nat.le_refl _) hRcells hRslots
  obtain ⟨s', hA⟩ : ∃ z, z = (T.setVm s.vm).setFrames (.invoking m args :: below) := ⟨_, rfl⟩
  rw [← hA] at Y
  have hvm : s'.vm = s.vm := by rw [hA]; rfl
  have hhp : s'.heap = H := by rw [hA]; exact hT
  have hW0 : s.WarmedH s'.vm := by rw [hvm]; exact State.WarmedH.refl s
  have hat' : ∀ w ∈ vx_atS own ic cls names, w.before args s' = true := fun w hw => vx_ot_at hW0 hvm.symm (hgood w (List.mem_cons_of_mem _ (List.mem_cons_of_mem _ hw))) (hat w hw)
  have hk' : (Cond.classLink own ik cls).before args s' = true := vx_ot_at hW0 hvm.symm (hgood _ List.mem_cons_self) hk
  have hini' : (Cond.initialized cls).before args s' = true := vx_ot_at hW0 hvm.symm (hgood _ (List.mem_cons_of_mem _ List.mem_cons_self)) hini
  have hU' : vx_Zq Bundle.tN "UNASSIGNED_STACK" Bundle.steD A s' s'.heap := by rw [hhp]; exact vx_Zq.moved hW0.alike (hU.kept hS.2.1)
  have hN' : vx_Zq Bundle.tN "SUPPRESSED_SENTINEL" Bundle.listD A s' s'.heap := by rw [hhp]; exact vx_Zq.moved hW0.alike (hN.kept hS.2.1)
  have h : ∀ w ∈ Bundle.ownAtoms own ic cls names, w.before args s' = true := vx_own hat' (vx_isRefq hU'.1) (vx_isRefq hN'.1) hU'.2.word hN'.2.word
  have hown' : s'.vm.findClass own = some m.cls := by rw [hvm]; exact hown
  have hins : (Cond.instantiable cls 6).before args s' = true := h _ (by simp [Bundle.ownAtoms])
  obtain ⟨vm₁, cX, kX, hfX, hkX, -, -, X₁, st1⟩ := Y.newCold hexec (own := own) (C := cls) (index := ik) (n := 6) hown' hk' hins hini'
    (g := F0 m pc ls rest) rfl (by rw [hb]; exact d0) (Nat.le_refl _) (Nat.le_refl _)
  generalize hT1 : (T.setVm vm₁).pushCell { cls := cX, slots := kX.instanceTypes.map defaultValue, vm := .none } = T1 at X₁ st1
  have hcat : (Value.ref T.heap.size).category = 1 := rfl
  have hcellA : T1.heap[T.heap.size]? = some (freshCell cX kX) := by rw [← hT1]; exact State.heap_pushCell_size _ _
  have d3' : decode c.code (pc + 3) = .ok (.dup, 1) := by rw [hb]; exact d3
  have d4' : decode c.code (pc + 4) = .ok (.ldc is, 2) := by rw [hb]; exact d4
  have hstr' : vk_R own is text sa s' := vk_R.warm hW0 hstr
  obtain ⟨U, hsteps, hrun, hend, hW, hsame, ce, hce, hO⟩ := X₁.ctorThrowS hexec htr (own := own) (cls := cls) (names := names) (ic := ic) hown' hcls hnames h (fun x hx => nomatch hx) hfX hkX hcellA (by rw [hhp, hT]; exact Nat.le_refl _) (msg := .ref sa) rfl
    (g := { method := m, pc := pc + 6, locals := ls, stack := .ref sa :: .ref T.heap.size :: .ref T.heap.size :: rest, locked := none }) rfl hsize rfl rfl (rest := rest) rfl
    (by rw [hb]; exact d6) (by rw [hb]; exact d9) hout hRframes (by simp only [List.map_cons, List.sum_cons, hcat]; omega) hlocks
  obtain ⟨f1, f2⟩ := vx_frame hsame
  rw [hhp] at f1 f2
  have hWs : s.WarmedH U.vm := State.WarmedH.trans hW0 hW
  have hcl : s.vm.findClass cls = some ce.cls := by
    have h9 := hO.cls
    rw [hvm] at h9
    exact h9
  have hall : s.sameButNew ({ U with vm := s.vm } : State) locs mc ms := by
    subst hA
    obtain ⟨e1, e2⟩ := hsame
    rw [State.setFrames_setFrames] at e1
    have h2 : (T.setVm s.vm).sameButNew ({ U with vm := s.vm } : State) [] (0 + 1) (0 + 6) := ⟨e1, e2⟩
    have h3 := X.same.trans h2
    rw [List.append_nil] at h3
    exact h3.mono hc hs
  refine ⟨U, ?_, .threw T.heap.size, hrun, hend, Or.inr ⟨T.heap.size, rfl, cls, ce, locs, hx U hWs.alike f1 (fun q hq => f2 q hq (fun z hz => nomatch hz)), hce, hO.vm, hcl, hWs, hall, hf⟩⟩
  refine st1 _ ?_
  show Steps p.tables e below (T1.setTop { method := m, pc := pc + 3, locals := ls, stack := .ref T.heap.size :: rest, locked := none }) _
  jvm_step X₁.here [X₁.here.top, hexec, d3', Value.category]
  exact X₁.ldcString hexec (own := own) (text := text) (index := is) (a := sa) hown' hstr'.1 hstr'.2
    (g := { method := m, pc := pc + 4, locals := ls, stack := .ref T.heap.size :: .ref T.heap.size :: rest, locked := none }) rfl d4' _ hsteps
/-- 'throw new E("text")', the text by a wide index -/
theorem vx_throwSW {cc : ByteArray} {pc : Nat} (hexec : p.tables.exec = Jvm.exec) (hb : c.code = cc) (hl : l.stackTraces = false) {own cls text : String} {names : List String} {ik is ic mc ms sa : Nat} {A : Nat → Prop}
    (hown : s.vm.findClass own = some m.cls) (hcls : Bundle.fit cls = true) (hnames : ∀ n ∈ names, Bundle.fit n = true)
    (hk : (Cond.classLink own ik cls).before args s = true) (hini : (Cond.initialized cls).before args s = true) (hstr : vk_R own is text sa s) (hat : ∀ w ∈ vx_atS own ic cls names, w.before args s = true)
    (hgood : ∀ w ∈ Cond.classLink own ik cls :: Cond.initialized cls :: vx_atS own ic cls names, vx_ot w = true)
    (hU : vx_Zq Bundle.tN "UNASSIGNED_STACK" Bundle.steD A s s.heap) (hN : vx_Zq Bundle.tN "SUPPRESSED_SENTINEL" Bundle.listD A s s.heap) (hS : va_S A s.heap H locs) (hsize : ls.size = c.maxLocals)
    (d0 : decode cc pc = .ok (.new ik, 3)) (d3 : decode cc (pc + 3) = .ok (.dup, 1)) (d4 : decode cc (pc + 4) = .ok (.ldc_w is, 3)) (d7 : decode cc (pc + 7) = .ok (.invokespecial ic, 3)) (d10 : decode cc (pc + 10) = .ok (.athrow, 1))
    (hout : ∀ x ∈ c.exceptionTable.toList, covers x (pc + 10) = false)
    (hRframes : names.length + 3 < R.frames) (hRlocals : (rest.map fun v => v.category).sum + (13 * (names.length + 1) + 43) ≤ R.locals) (hRcells : cells + 1 ≤ R.cells) (hRslots : slots + 6 ≤ R.slots) (hlocks : meth.locks = false)
    (hx : ∀ t : State, s.vm.Alike t.vm → H.size ≤ t.heap.size → (∀ q : Nat, q < H.size → t.heap[q]? = H[q]?) → XC cls s t)
    (hf : ∀ z ∈ locs, free z.base) (hc : cells + 1 ≤ mc) (hs : slots + 6 ≤ ms) :
    W p l e R s m args below meth c H locs cells slots (vx_MQ below Qc XC args s mc ms free) (F0 m pc ls rest) := by
  intro T hT X
  have htr : e.platform.stackTraces = false := (show e.platform.stackTraces = l.stackTraces by rw [X.admits.platform]).trans hl
  have Y := vx_rebase X (R' := { frames := R.frames, locals := R.locals, cells := 1, slots := 6 }) (Nat.le_refl _) (Nat.le_refl _) hRcells hRslots
  obtain ⟨s', hA⟩ : ∃ z, z = (T.setVm s.vm).setFrames (.invoking m args :: below) := ⟨_, rfl⟩
  rw [← hA] at Y
  have hvm : s'.vm = s.vm := by rw [hA]; rfl
  have hhp : s'.heap = H := by rw [hA]; exact hT
  have hW0 : s.WarmedH s'.vm := by rw [hvm]; exact State.WarmedH.refl s
  have hat' : ∀ w ∈ vx_atS own ic cls names, w.before args s' = true := fun w hw => vx_ot_at hW0 hvm.symm (hgood w (List.mem_cons_of_mem _ (List.mem_cons_of_mem _ hw))) (hat w hw)
  have hk' : (Cond.classLink own ik cls).before args s' = true := vx_ot_at hW0 hvm.symm (hgood _ List.mem_cons_self) hk
  have hini' : (Cond.initialized cls).before args s' = true := vx_ot_at hW0 hvm.symm (hgood _ (List.mem_cons_of_mem _ List.mem_cons_self)) hini
  have hU' : vx_Zq Bundle.tN "UNASSIGNED_STACK" Bundle.steD A s' s'.heap := by rw [hhp]; exact vx_Zq.moved hW0.alike (hU.kept hS.2.1)
  have hN' : vx_Zq Bundle.tN "SUPPRESSED_SENTINEL" Bundle.listD A s' s'.heap := by rw [hhp]; exact vx_Zq.moved hW0.alike (hN.kept hS.2.1)
  have h : ∀ w ∈ Bundle.ownAtoms own ic cls names, w.before args s' = true := vx_own hat' (vx_isRefq hU'.1) (vx_isRefq hN'.1) hU'.2.word hN'.2.word
  have hown' : s'.vm.findClass own = some m.cls := by rw [hvm]; exact hown
  have hins : (Cond.instantiable cls 6).before args s' = true := h _ (by simp [Bundle.ownAtoms])
  obtain ⟨vm₁, cX, kX, hfX, hkX, -, -, X₁, st1⟩ := Y.newCold hexec (own := own) (C := cls) (index := ik) (n := 6) hown' hk' hins hini'
    (g := F0 m pc ls rest) rfl (by rw [hb]; exact d0) (Nat.le_refl _) (Nat.le_refl _)
  generalize hT1 : (T.setVm vm₁).pushCell { cls := cX, slots := kX.instanceTypes.map defaultValue, vm := .none } = T1 at X₁ st1
  have hcat : (Value.ref T.heap.size).category = 1 := rfl
  have hcellA : T1.heap[T.heap.size]? = some (freshCell cX kX) := by rw [← hT1]; exact State.heap_pushCell_size _ _
  have d3' : decode c.code (pc + 3) = .ok (.dup, 1) := by rw [hb]; exact d3
  have d4' : decode c.code (pc + 4) = .ok (.ldc_w is, 3) := by rw [hb]; exact d4
  have hstr' : vk_R own is text sa s' := vk_R.warm hW0 hstr
  obtain ⟨U, hsteps, hrun, hend, hW, hsame, ce, hce, hO⟩ := X₁.ctorThrowS hexec htr (own := own) (cls := cls) (names := names) (ic := ic) hown' hcls hnames h (fun x hx => nomatch hx) hfX hkX hcellA (by rw [hhp, hT]; exact Nat.le_refl _) (msg := .ref sa) rfl
    (g := { method := m, pc := pc + 7, locals := ls, stack := .ref sa :: .ref T.heap.size :: .ref T.heap.size :: rest, locked := none }) rfl hsize rfl rfl (rest := rest) rfl
    (by rw [hb]; exact d7) (by rw [hb]; exact d10) hout hRframes (by simp only [List.map_cons, List.sum_cons, hcat]; omega) hlocks
  obtain ⟨f1, f2⟩ := vx_frame hsame
  rw [hhp] at f1 f2
  have hWs : s.WarmedH U.vm := State.WarmedH.trans hW0 hW
  have hcl : s.vm.findClass cls = some ce.cls := by
    have h9 := hO.cls
    rw [hvm] at h9
    exact h9
  have hall : s.sameButNew ({ U with vm := s.vm } : State) locs mc ms := by
    subst hA
    obtain ⟨e1, e2⟩ := hsame
    rw [State.setFrames_setFrames] at e1
    have h2 : (T.setVm s.vm).sameButNew ({ U with vm := s.vm } : State) [] (0 + 1) (0 + 6) := ⟨e1, e2⟩
    have h3 := X.same.trans h2
    rw [List.append_nil] at h3
    exact h3.mono hc hs
  refine ⟨U, ?_, .threw T.heap.size, hrun, hend, Or.inr ⟨T.heap.size, rfl, cls, ce, locs, hx U hWs.alike f1 (fun q hq => f2 q hq (fun z hz => nomatch hz)), hce, hO.vm, hcl, hWs, hall, hf⟩⟩
  refine st1 _ ?_
  show Steps p.tables e below (T1.setTop { method := m, pc := pc + 3, locals := ls, stack := .ref T.heap.size :: rest, locked := none }) _
  jvm_step X₁.here [X₁.here.top, hexec, d3', Value.category]
  exact X₁.ldcStringW hexec (own := own) (text := text) (index := is) (a := sa) hown' hstr'.1 hstr'.2
    (g := { method := m, pc := pc + 4, locals := ls, stack := .ref T.heap.size :: .ref T.heap.size :: rest, locked := none }) rfl d4' _ hsteps
end Ends
section Bodies
variable {l : Launch}
theorem vx_ofW {y : MethodName} {ws ws' : List Cond} {rm : Room} {Pc : Array Value → State → Prop} {Qc : Array Value → State → Outcome → State → Prop} {XC : String → State → State → Prop} {mc ms : Nat} {free : Addr → Prop} {cc : ByteArray} {maxL : Nat} {ret : Option FieldType}
    (hy : plainName y.cls = true) (hw : ws = Cond.code y cc maxL ret :: ws')
    (body : ∀ p e s m args below meth c s₁, BodyLoose p l y (headSpec ws rm) cc maxL ret e s m args below meth c s₁ → c.maxLocals = maxL → (∀ x ∈ c.exceptionTable.toList, False) → Pc args s →
      W p l e (headSpec ws rm).room s m args below meth c s.heap [] 0 0 (vx_MQ below Qc XC args s mc ms free) (entryFrame m args maxL)) : vx_Met l y ws rm Pc Qc XC mc ms free := by
  refine MetFree.of_bodyS (code := cc) (maxLocals := maxL) (ret := ret) hy ?_ ?_
  · intro args s m h hn
    obtain ⟨meth, c, h1, h2, h3, h4, h5, h6, -, -⟩ := Cond.code_spec hn (atoms_spec (ws := ws) h _ (by rw [hw]; exact List.mem_cons_self))
    exact ⟨meth, c, h1, h2, h3, h4, h5, h6⟩
  · intro p e s m args below meth c s₁ B hml hP _
    have hh0 : s₁.heap = s.heap := by rw [B.state]; rfl
    have ht : ∀ x ∈ c.exceptionTable.toList, False := by
      obtain ⟨meth9, c9, h1, h2, -, -, -, -, h7, -⟩ := Cond.code_spec B.named (atoms_spec (ws := ws) B.pre _ (by rw [hw]; exact List.mem_cons_self))
      cases Option.some.inj (h1.symm.trans B.method)
      cases Option.some.inj (h2.symm.trans (Stand.of_body B).code)
      intro x hx
      rw [Array.isEmpty_iff.mp h7] at hx
      cases hx
    obtain ⟨t, a1, o, b1, b2, b3⟩ := body p e s m args below meth c s₁ B hml ht hP s₁ hh0 (Stand.of_body B)
    exact ⟨t, o, a1, b1, b2, b3⟩
/-- the table of a body with handlers -/
theorem vx_table {p : Program} {x y : MethodName} {S : Spec} {cc bytes : ByteArray} {maxL maxL' : Nat} {ret ret' : Option FieldType} {e : Env} {s s₁ : State} {m : MethodId} {args : Array Value} {below : List Frame} {meth : Method} {c : Code} {hh : List (Nat × Nat × Nat × Nat)}
    (B : BodyLoose p l y S cc maxL ret e s m args below meth c s₁) (h : (Cond.codeWith y bytes maxL' ret' hh).before args s = true) : c.exceptionTable.toList = tableOf hh := by
  obtain ⟨m9, meth9, c9, hn9, h1, h2, -, -, h6, -⟩ := Cond.codeWith_spec h
  cases Option.some.inj (hn9.symm.trans B.named)
  cases Option.some.inj (h1.symm.trans B.method)
  cases Option.some.inj (h2.symm.trans (Stand.of_body B).code)
  rw [← h6, table_eq]
end Bodies
end VXA
/-! ===== END ===== -/
/-! ===== BEGIN a static call of a method with an exception table ===== -/
section VXS
variable {p : Program} {l : Launch} {e : Env} {R : Room} {s : State} {m : MethodId} {args : Array Value} {below : List Frame} {meth : Method} {c : Code} {T : State} {H : Heap} {locs : List Loc} {cells slots : Nat}
abbrev vx_CSW (R : Room) (s : State) (args : Array Value) (own : String) (index : Nat) (y : MethodName) (bytes : ByteArray) (maxL : Nat) (ret : Option FieldType) (hh : List (Nat × Nat × Nat × Nat)) (ws : List Cond) (rm : Room) (mc ms n : Nat) : Prop :=
  (rm.cells = mc ∧ rm.slots = ms ∧ rm.frames + 1 ≤ R.frames ∧ 8 + (maxL + 11) + rm.locals ≤ R.locals ∧ (∀ w ∈ ws, ∀ (a' : Array Value) (U : State), s.WarmedH U.vm → w.before a' U = true) ∧ Cond.codeWith y bytes maxL ret hh ∈ ws) ∧
  (Cond.codeWith y bytes maxL ret hh).before args s = true ∧ (Cond.initialized y.cls).before args s = true ∧ (y.cls ≠ "java/lang/invoke/MethodHandle" ∧ y.cls ≠ "java/lang/invoke/VarHandle") ∧
  (∀ sig, parseMethodDescriptor y.desc = some sig → n = sig.parameters.length) ∧ (Cond.methodLink own index y).before args s = true ∧ (Cond.static y).before args s = true
theorem vx_cwSW {own : String} {index maxL mc ms : Nat} {y : MethodName} {bytes : ByteArray} {ret : Option FieldType} {hh : List (Nat × Nat × Nat × Nat)} {Ts ws ws' : List Cond} {rm : Room} (n : Nat) (ht : ∀ w ∈ Ts, w.before args s = true) (hT : GoodIn Ts (va_wsS own index y ws)) (hw : ws = Cond.codeWith y bytes maxL ret hh :: ws') (hrc : rm.cells = mc) (hrs : rm.slots = ms)
    (hd : y.cls ≠ "java/lang/invoke/MethodHandle" ∧ y.cls ≠ "java/lang/invoke/VarHandle" ∧ (parseMethodDescriptor y.desc).map (fun d => d.parameters.length) = some n) (hR : rm.frames + 1 ≤ R.frames ∧ 8 + (maxL + 11) + rm.locals ≤ R.locals) :
    vx_CSW R s args own index y bytes maxL ret hh ws rm mc ms n := by
  have ok : ∀ w ∈ va_wsS own index y ws, w.before args s = true := fun w h => ht w (hT w h).1
  have hG : GoodIn Ts ws := fun w h => hT w (by unfold va_wsS; exact List.mem_append_right _ h)
  have hc : Cond.codeWith y bytes maxL ret hh ∈ ws := by rw [hw]; exact List.mem_cons_self
  refine ⟨⟨hrc, hrs, hR.1, hR.2, pay_in ht hG, hc⟩, ht _ (hG _ hc).1, ok _ (by simp [va_wsS]), ⟨hd.1, hd.2.1⟩, fun sig h => ?_, ok _ (by simp [va_wsS]), ok _ (by simp [va_wsS])⟩
  have h2 := hd.2.2
  rw [h] at h2
  exact (Option.some.inj h2).symm
theorem vx_callSW (X : Stand p l e R s m args below meth c T locs cells slots) (hexec : p.tables.exec = Jvm.exec) {own : String} {index : Nat} {y : MethodName} {bytes : ByteArray} {maxL : Nat} {ret : Option FieldType} {hh : List (Nat × Nat × Nat × Nat)}
    (hown : s.vm.findClass own = some m.cls) (hlink : (Cond.methodLink own index y).before args s = true) (hstat : (Cond.static y).before args s = true) (hinit : (Cond.initialized y.cls).before args s = true)
    (hcode : (Cond.codeWith y bytes maxL ret hh).before args s = true) (hy : y.cls ≠ "java/lang/invoke/MethodHandle" ∧ y.cls ≠ "java/lang/invoke/VarHandle")
    {W9 : Nat} {Pre : Pt → Array Value → Prop} {Post : Pt → Array Value → Option Value → Pt → Prop} (hK : Back l R p e below s args y 3 W9 Pre Post)
    {g : JFrame} (hg : g.method = m) (hsize : g.locals.size = c.maxLocals) {argsL rest : List Value} (hlen : ∀ sig, parseMethodDescriptor y.desc = some sig → argsL.length = sig.parameters.length)
    (hstack : g.stack = argsL.reverse ++ rest) (hW : 2 * g.monitorRoom + (rest.map fun v => v.category).sum ≤ W9) (hdg : decode c.code g.pc = .ok (.invokestatic index, 3))
    (hpre : ∀ vm₁, s.WarmedH vm₁ → Pre ⟨T.setVm vm₁, locs, cells, slots⟩ argsL.toArray) :
    ∃ (v : Option Value) (vm₁ : Vm) (B : Pt), s.WarmedH vm₁ ∧ Stand p l e R s m args below meth c B.U B.locs B.cells B.slots ∧ Post ⟨T.setVm vm₁, locs, cells, slots⟩ argsL.toArray v B ∧
      ∀ target, Steps p.tables e below (B.U.setTop { g with pc := g.pc + 3, stack := v.toList ++ rest }) target → Steps p.tables e below (T.setTop g) target := by
  obtain ⟨mk, methM, cM, hnamed, hmethM, -, -, -, -, -, -, hsigM⟩ := Cond.codeWith_spec hcode
  have hstatic : methM.isStatic = true := Cond.static_spec hnamed hmethM hstat
  obtain ⟨kP, hkP, -⟩ := className_of_methodNamed hnamed
  have hinitP : kP.init = .initialized := Cond.initialized_spec (findClass_of_methodNamed hnamed) hkP hinit
  obtain ⟨vm₁, X₁, hstep₁⟩ := X.invokestatic hexec hown hlink hnamed hmethM hstatic hkP hinitP hy (g := g) hg (argsL := argsL) (rest := rest) (hlen _ hsigM) hstack hdg
  obtain ⟨v, B, X', hpost, hsteps⟩ := hK m meth c ⟨T.setVm vm₁, locs, cells, slots⟩ { g with stack := rest } (.invokestatic index) mk argsL.toArray X₁ hg hsize hdg hW (X₁.named hnamed) (hpre vm₁ X₁.warmed)
  exact ⟨v, vm₁, B, X₁.warmed, X', hpost, fun target h => hstep₁ _ fun acts => by rw [doInvoke_state]; exact hsteps.trans h⟩
theorem vx_runSW {y : MethodName} {bytes cc : ByteArray} {maxL nL mc ms n index : Nat} {ret : Option FieldType} {hh : List (Nat × Nat × Nat × Nat)} {ws : List Cond} {rm : Room} {Pc : Array Value → State → Prop} {Qc : Array Value → State → Outcome → State → Prop} {free : Addr → Prop} {Ts : List Cond} {own : String} {As rest : List Value} {g : JFrame}
    (S : CallFix p m c cc nL s args Ts own) (hM : Met l y ws rm Pc Qc mc ms free) (cw : vx_CSW R s args own index y bytes maxL ret hh ws rm mc ms n) (hp : PreS s H Pc As)
    (hg : g.method = m) (hn : As.length = n) (hsize : g.locals.size = nL) (hstack : g.stack = As.reverse ++ rest) (hW : 2 * g.monitorRoom + (rest.map fun v => v.category).sum ≤ 8) (hdg : decode cc g.pc = .ok (.invokestatic index, 3)) (hf : cells + mc ≤ R.cells ∧ slots + ms ≤ R.slots) :
    va_Run p l e R s m args below meth c H locs cells slots mc ms g rest (Qc As.toArray) (free) := by
  obtain ⟨⟨hrc, hrs, hfr, hlo, hws, hcw⟩, hcode, hini, hy, hlen, hl, hstt⟩ := cw
  have hK : Back l R p e below s args y 3 8 (PreOf R mc ms Pc) (PostOf Qc mc ms free) := va_backW (hh := hh) (bytes := bytes) (maxL := maxL) (ret := ret) hM hp.1 hrc hrs hfr hlo hws hcw (fun a' U hW => word_at hW (Or.inl (by first | rfl | simp [Cond.onTables, Cond.keeps, Cond.steady])) hini)
  obtain ⟨hx, hb, hml, ho, -⟩ := S
  intro T hT X
  obtain ⟨v, vm₁, ⟨U', l2, c2, s2⟩, hW₁, X', ⟨g', mk, t, L, e1, e2, hq, h1, hL, h2, h3⟩, st⟩ := vx_callSW X hx (hh := hh) (bytes := bytes) (maxL := maxL) (ret := ret) ho hl hstt hini hcode hy hK hg (hsize.trans hml.symm) (argsL := As) (rest := rest) (fun sig h => hn.trans (hlen sig h)) hstack hW (by rw [hb]; exact hdg)
    (fun vm₁ hW₁ => ⟨hf.1, hf.2, hp.2 (T.setVm vm₁) hT hW₁⟩)
  dsimp only [Pt.U, Pt.locs, Pt.cells, Pt.slots] at X' e1 e2 h1 h2 h3 st
  subst h1; subst h2; subst h3
  exact ⟨v, (T.setVm vm₁).calling g' mk As.toArray, t, U', L, hT, X', hL, e1, e2, hq, st⟩
/-- not caught here, past rows that name other classes: it goes on to the caller -/
theorem vx_outP {p : Program} {l : Launch} {e : Env} {R : Room} {s : State} {m : MethodId} {args : Array Value} {below : List Frame} {meth : Method} {c : Code} {H : Heap} {locs : List Loc} {cells slots : Nat} {free : Addr → Prop} {ls : Array Slot} {rest : List Value} {Qc : Array Value → State → Outcome → State → Prop} {XC : String → State → State → Prop}
    {pc : Nat} {own E : String} {ce : Cell} {q : Addr} {mc ms : Nat} (hown : s.vm.findClass own = some m.cls) (hlocks : meth.locks = false)
    (hpass : ∀ z ∈ c.exceptionTable.toList, covers z pc = false ∨ (z.catchType ≠ 0 ∧ ∃ nm : String, (Cond.classLink own z.catchType nm).before args s = true ∧ va_Nc E nm s)) (hcell : H[q]? = some ce) (hv : ce.vm = .none) (hcl : s.vm.findClass E = some ce.cls)
    (hx : ∀ t : State, t.heap = H → s.vm.Alike t.vm → XC E s t) (hf : ∀ z ∈ locs, free z.base) (hc : cells ≤ mc) (hs : slots ≤ ms) :
    vx_W p l e R s m args below meth c H locs cells slots (vx_MQ below Qc XC args s mc ms free) (F0 m pc ls rest) q := by
  intro T hT X
  have hpl : e.platform.magicAccessors = ({} : Platform).magicAccessors := by rw [X.admits.platform]
  obtain ⟨vm', hW', X', st⟩ := X.outThrough hlocks q (g := F0 m pc ls rest) rfl rfl rfl (cell := ce) (by rw [hT]; exact hcell) (by rw [hv]; rfl)
    (by obtain ⟨k9, h9, -⟩ := Vm.findClass_spec hcl; exact ⟨k9, h9⟩) (fun z hz => by
      rcases hpass z hz with h | ⟨hz0, nm, hl1, hn1⟩
      · exact Or.inl h
      · obtain ⟨c6, hc6, hcl6⟩ := Cond.classLink_spec hown hl1 e.platform hpl
        obtain ⟨a8, b8, h1, h2, h3⟩ := hn1
        cases Option.some.inj (h1.symm.trans hcl)
        cases Option.some.inj (h2.symm.trans hc6)
        exact Or.inr ⟨hz0, _, hcl6, h3⟩)
  obtain ⟨g₀, hfr⟩ := X'.frames_eq
  have hcell9 : ((T.setVm vm').setFrames (.throwing q :: below)).heap[q]? = some ce := by
    show T.heap[q]? = some ce
    rw [hT]; exact hcell
  have hend : Ended ((T.setVm vm').setFrames (.throwing q :: below)) below (.threw q) := State.frames_setFrames _ (State.cur_lt_of_frames hfr)
  refine ⟨(T.setVm vm').setFrames (.throwing q :: below), ?_, .threw q, X'.here.running, hend, Or.inr ⟨q, rfl, E, ce, locs, hx _ hT (X'.ends _).1.alike, hcell9, hv, hcl, (X'.ends _).1, (X'.ends _).2.mono hc hs, hf⟩⟩
  rw [X.pushThrowing_eq]
  exact st
/-- a thing of a world lies in the heap -/
theorem vx_lt {D : va_G} {cl : List vw_C} {ws : va_W} {H1 : Heap} (h : va_P D cl ws H1) {k : Nat} {q : Nat × va_E} (hk : ws[k]? = some q) : q.1 < H1.size := (h k q hk).lt
end VXS
/-! ===== END ===== -/
/-! ===== BEGIN methods with a table of their own: called by a name, returning or throwing ===== -/
section VXH
/-! vx_backW, vx_callVX, vx_callSX, vx_callVW, vx_runVW, vx_runVX, vx_runSX, vx_ofWH follow the same proofs as their sisters above (Free/Laws.lean, Shelf42/LK1.lean); vx_outP calls Shelf42/NT130.lean (outThrough). -/
section
variable {l : Launch} {R : Room} {p : Program} {e : Env} {below : List Frame} {s : State} {sargs : Array Value} {y : MethodName} {len W9 : Nat}
theorem vx_backW {ws : List Cond} {rm : Room} {Pc : Array Value → State → Prop} {Qc : Array Value → State → Outcome → State → Prop} {XC : String → State → State → Prop} {mc ms : Nat} {free : Addr → Prop} {bytes : ByteArray} {maxL : Nat} {ret : Option FieldType} {hh : List (Nat × Nat × Nat × Nat)}
    (hM : vx_Met l y ws rm Pc Qc XC mc ms free) (hblind : FrameBlind Pc) (hrc : rm.cells = mc) (hrs : rm.slots = ms)
    (hframes : rm.frames + 1 ≤ R.frames) (hlocals : W9 + (maxL + 11) + rm.locals ≤ R.locals)
    (hws : ∀ w ∈ ws, ∀ a' U, s.WarmedH U.vm → w.before a' U = true) (hcode : Cond.codeWith y bytes maxL ret hh ∈ ws) (hinit : ∀ a' U, s.WarmedH U.vm → (Cond.initialized y.cls).before a' U = true) :
    vx_Back l R p e below s sargs y len W9 (PreOf R mc ms Pc) (PostOf Qc mc ms free) (vx_Post XC mc ms free) := by
  intro m meth c A g ig mk a X hg hsize hdg hW hn hp
  have h1 : (headSpec ws rm).pre.before a A.U = true := atoms_intro fun w hw => hws w hw _ _ X.warmed
  have h2 : (Cond.codeWith y bytes maxL ret hh).before a A.U = true := hws _ hcode _ _ X.warmed
  have h3 : (Cond.initialized y.cls).before a A.U = true := hinit _ _ X.warmed
  have h4 : A.cells + (headSpec ws rm).room.cells ≤ R.cells := by rw [show (headSpec ws rm).room.cells = mc from hrc]; exact hp.1
  have h5 : A.slots + (headSpec ws rm).room.slots ≤ R.slots := by rw [show (headSpec ws rm).room.slots = ms from hrs]; exact hp.2.1
  have hPc : Pc a (A.U.calling g mk a) := hblind _ _ _ _ hp.2.2
  obtain ⟨U, Ls, c0, s0⟩ := A
  dsimp only [Pt.U, Pt.locs, Pt.cells, Pt.slots] at h1 h2 h3 h4 h5 X hn hPc ⊢
  obtain ⟨m9, methY, cY, hn9, hmY, hcY, -, hlY, -⟩ := Cond.codeWith_spec h2
  cases Option.some.inj (hn9.symm.trans hn)
  obtain ⟨kY, hkY, -⟩ := className_of_methodNamed hn
  have hinitY : kY.init = .initialized := Cond.initialized_spec (findClass_of_methodNamed hn) hkY h3
  have h : At U g.method c below := by rw [hg]; exact X.here
  have hlocals9 : W9 + (maxL + 11) + (headSpec ws rm).room.locals ≤ R.locals := hlocals
  have happ : (headSpec ws rm).appliesLoose y e.platform (U.calling g mk a) = true :=
    Spec.appliesLoose_calling (g := g) h hdg hn hkY hinitY
      (X.room_calling (g := g) (R' := (headSpec ws rm).room) hsize hmY hcY hframes (by rw [hlY]; omega) h4 h5) h1
  obtain ⟨mid, hmid⟩ := h.above
  have hfr : (U.setTop g).frames = (.java g :: mid) ++ below := by rw [State.frames_setTop' g h.top, hmid]; rfl
  obtain ⟨o, s₂, hsteps, -, hend, hq⟩ := Steps.callFree hM p X.admits X.cas X.clock (acts := []) hfr happ hPc trivial
  have hq' : vx_Q Qc XC mc ms free a (U.calling g mk a) o s₂ := hq
  rw [State.frames_setTop' g h.top] at hend
  obtain ⟨g₀, hg0⟩ := Option.isSome_iff_exists.mp h.top
  obtain ⟨r, hr⟩ := State.topJava?_eq_some.mp hg0
  have hr' : (({ U with heap := s₂.heap, slotsUsed := s₂.slotsUsed } : State).setVm s₂.vm).frames = .java g₀ :: r := hr
  rcases hq' with ⟨hqc, L, hfe, hL⟩ | ⟨q, rfl, E, ce, L, hx, hce, hcv, hcl, hW₂, hsm, hL⟩
  · obtain ⟨⟨v, rfl⟩, hW₂, e2, q2, q3, q4, q5, q6⟩ := id hfe
    have e3 : s₂ = ({ (U.calling g mk a).setFrames s₂.frames with heap := s₂.heap, slotsUsed := s₂.slotsUsed } : State).setVm s₂.vm := by
      have : s₂ = ({ s₂ with vm := (U.calling g mk a).vm } : State).setVm s₂.vm := rfl
      rw [e2] at this
      exact this
    obtain ⟨c₂, i₂, len₂, hc₂, hd₂, hf₂⟩ := hend
    have hW' : U.WarmedH s₂.vm := hW₂
    have hcc : c₂ = c := by
      have h1 : s₂.code? g.method = U.code? g.method := by
        rw [State.code?_eq, State.code?_eq, hW'.alike.method?]
      exact Option.some.inj (hc₂.symm.trans (h1.trans h.code))
    subst hcc
    have hlen : len₂ = len := by rw [hdg] at hd₂; cases hd₂; rfl
    subst hlen
    have hs₂ : s₂ = (({ U with heap := s₂.heap, slotsUsed := s₂.slotsUsed } : State).setVm s₂.vm).setTop { g with pc := g.pc + len₂, stack := v.toList ++ g.stack } := by
      refine e3.trans ?_
      rw [hf₂, State.calling_eq h.top, State.setFrames_setFrames, State.setTop_of_frames _ hr', hr]
      rfl
    have hsame : U.sameButNew ({ U with heap := s₂.heap, slotsUsed := s₂.slotsUsed } : State) L mc ms := by
      refine ⟨?_, q2, q3, q4, q5, q6⟩
      obtain ⟨t, ht, -⟩ := State.frames_cons hr
      show ({ U with heap := s₂.heap, slotsUsed := s₂.slotsUsed } : State) = { U.setFrames U.frames with heap := s₂.heap, slotsUsed := s₂.slotsUsed }
      rw [State.setFrames_self ht]
    subst hg
    refine Or.inl ⟨v, ⟨(({ U with heap := s₂.heap, slotsUsed := s₂.slotsUsed } : State).setVm s₂.vm), Ls ++ L, c0 + mc, s0 + ms⟩,
      ⟨X.admits, X.cas, X.clock, X.frames, X.room, X.hears, X.method, X.code, (X.here.setHeapUsed s₂.heap s₂.slotsUsed).setVm hW'.alike, X.tail, State.WarmedH.trans X.warmed hW', X.limits, X.bytes, X.same.trans (hsame.setVm s.vm)⟩,
      ⟨g, mk, s₂, L, rfl, rfl, hqc, rfl, hL, rfl, rfl⟩, ?_⟩
    show Steps p.tables e below _ ((({ U with heap := s₂.heap, slotsUsed := s₂.slotsUsed } : State).setVm s₂.vm).setTop { g with pc := g.pc + len₂, stack := v.toList ++ g.stack })
    rw [← hs₂]
    exact hsteps
  · obtain ⟨e2, q2, q3, q4, q5, q6⟩ := id hsm
    have e3 : s₂ = ({ (U.calling g mk a).setFrames s₂.frames with heap := s₂.heap, slotsUsed := s₂.slotsUsed } : State).setVm s₂.vm := by
      have : s₂ = ({ s₂ with vm := (U.calling g mk a).vm } : State).setVm s₂.vm := rfl
      rw [e2] at this
      exact this
    have hf₂ : s₂.frames = .throwing q :: .java g :: U.frames.tail := hend
    have hW' : U.WarmedH s₂.vm := hW₂
    have hs₂ : s₂ = ((({ U with heap := s₂.heap, slotsUsed := s₂.slotsUsed } : State).setVm s₂.vm).setTop g).pushFrame (.throwing q) := by
      refine e3.trans ?_
      rw [hf₂, State.calling_eq h.top, State.setFrames_setFrames, State.pushFrame, State.frames_setTop _ hr', State.setTop_of_frames _ hr', State.setFrames_setFrames, hr]
      rfl
    have hsame : U.sameButNew ({ U with heap := s₂.heap, slotsUsed := s₂.slotsUsed } : State) L mc ms := by
      refine ⟨?_, q2, q3, q4, q5, q6⟩
      obtain ⟨t, ht, -⟩ := State.frames_cons hr
      show ({ U with heap := s₂.heap, slotsUsed := s₂.slotsUsed } : State) = { U.setFrames U.frames with heap := s₂.heap, slotsUsed := s₂.slotsUsed }
      rw [State.setFrames_self ht]
    subst hg
    refine Or.inr ⟨q, ⟨(({ U with heap := s₂.heap, slotsUsed := s₂.slotsUsed } : State).setVm s₂.vm), Ls ++ L, c0 + mc, s0 + ms⟩,
      ⟨X.admits, X.cas, X.clock, X.frames, X.room, X.hears, X.method, X.code, (X.here.setHeapUsed s₂.heap s₂.slotsUsed).setVm hW'.alike, X.tail, State.WarmedH.trans X.warmed hW', X.limits, X.bytes, X.same.trans (hsame.setVm s.vm)⟩,
      ⟨g, mk, s₂, L, E, ce, rfl, rfl, hx, hce, hcv, hcl, rfl, hL, rfl, rfl⟩, ?_⟩
    show Steps p.tables e below _ (((({ U with heap := s₂.heap, slotsUsed := s₂.slotsUsed } : State).setVm s₂.vm).setTop g).pushFrame (.throwing q))
    rw [← hs₂]
    exact hsteps
end
variable {p : Program} {l : Launch} {e : Env} {R : Room} {s : State} {m : MethodId} {args : Array Value} {below : List Frame} {meth : Method} {c : Code} {T : State} {H : Heap} {locs : List Loc} {cells slots : Nat}
theorem vx_callVX (X : Stand p l e R s m args below meth c T locs cells slots) (hexec : p.tables.exec = Jvm.exec) {own C : String} {index : Nat} {y : MethodName} {bytes : ByteArray} {maxL : Nat} {ret : Option FieldType} {hh : List (Nat × Nat × Nat × Nat)}
    (hown : s.vm.findClass own = some m.cls) (hlink : (Cond.methodLink own index y).before args s = true) (hinst : (Cond.instanceMethod y).before args s = true) (hsel : (Cond.selects C y y).before args s = true)
    (hcode : (Cond.codeWith y bytes maxL ret hh).before args s = true) (hy : y.cls ≠ "java/lang/invoke/MethodHandle" ∧ y.cls ≠ "java/lang/invoke/VarHandle")
    {W9 : Nat} {Pre : Pt → Array Value → Prop} {Post : Pt → Array Value → Option Value → Pt → Prop} {PostX : Pt → Array Value → Addr → Pt → Prop} (hK : vx_Back l R p e below s args y 3 W9 Pre Post PostX)
    {b : Addr} {cellB : Cell} (hcell : T.heap[b]? = some cellB) (hobj : cellB.vm.isStatics = false) (hcls : s.vm.findClass C = some cellB.cls)
    {g : JFrame} (hg : g.method = m) (hsize : g.locals.size = c.maxLocals) {argsL rest : List Value} (hlen : ∀ sig, parseMethodDescriptor y.desc = some sig → argsL.length = sig.parameters.length)
    (hstack : g.stack = argsL.reverse ++ .ref b :: rest) (hW : 2 * g.monitorRoom + (rest.map fun v => v.category).sum ≤ W9) (hdg : decode c.code g.pc = .ok (.invokevirtual index, 3))
    (hpre : ∀ vm₁, s.WarmedH vm₁ → Pre ⟨T.setVm vm₁, locs, cells, slots⟩ (Value.ref b :: argsL).toArray) :
    (∃ (v : Option Value) (vm₁ : Vm) (B : Pt), s.WarmedH vm₁ ∧ Stand p l e R s m args below meth c B.U B.locs B.cells B.slots ∧ Post ⟨T.setVm vm₁, locs, cells, slots⟩ (Value.ref b :: argsL).toArray v B ∧
      ∀ target, Steps p.tables e below (B.U.setTop { g with pc := g.pc + 3, stack := v.toList ++ rest }) target → Steps p.tables e below (T.setTop g) target) ∨
    (∃ (q : Addr) (vm₁ : Vm) (B : Pt), s.WarmedH vm₁ ∧ Stand p l e R s m args below meth c B.U B.locs B.cells B.slots ∧ PostX ⟨T.setVm vm₁, locs, cells, slots⟩ (Value.ref b :: argsL).toArray q B ∧
      Steps p.tables e below (T.setTop g) ((B.U.setTop { g with stack := rest }).pushFrame (.throwing q))) := by
  obtain ⟨mk, methM, hnamed, hmethM, hstM, habM⟩ := Cond.instanceMethod_spec hinst
  obtain ⟨m8, methM', cM, hn8, hmethM', -, -, -, -, -, -, hsigM⟩ := Cond.codeWith_spec hcode
  cases Option.some.inj (hn8.symm.trans hnamed)
  cases hmethM.symm.trans hmethM'
  obtain ⟨c2, r2, m2, q1, q2, q3, q4, kP, hkP, hkPi⟩ := Cond.selects_spec hsel
  cases hcls.symm.trans q1
  cases (State.methodFound?_of_named hnamed hy).symm.trans q2
  cases hnamed.symm.trans q3
  have hselP : selectMethod e.platform s.vm cellB.cls mk = .method mk := by rw [Launch.admits_selectMethod X.admits]; exact q4
  obtain ⟨vm₁, X₁, hstep₁⟩ := X.invokevirtual hexec hown hlink hnamed hmethM hstM hkP hkPi hy (a := b) (cell := cellB) hcell
    (fun z h => by rw [h] at hobj; cases hobj) hselP hmethM habM hkP hkPi (g := g) hg (argsL := argsL) (rest := rest) (hlen _ hsigM) hstack hdg
  rcases hK m meth c ⟨T.setVm vm₁, locs, cells, slots⟩ { g with stack := rest } (.invokevirtual index) mk (Value.ref b :: argsL).toArray X₁ hg hsize hdg hW (X₁.named hnamed) (hpre vm₁ X₁.warmed) with ⟨v, B, X', hpost, hsteps⟩ | ⟨q, B, X', hpost, hsteps⟩
  · exact Or.inl ⟨v, vm₁, B, X₁.warmed, X', hpost, fun target h => hstep₁ _ fun acts => by rw [doInvoke_state]; exact hsteps.trans h⟩
  · exact Or.inr ⟨q, vm₁, B, X₁.warmed, X', hpost, hstep₁ _ fun acts => by rw [doInvoke_state]; exact hsteps⟩
theorem vx_callSX (X : Stand p l e R s m args below meth c T locs cells slots) (hexec : p.tables.exec = Jvm.exec) {own : String} {index : Nat} {y : MethodName} {bytes : ByteArray} {maxL : Nat} {ret : Option FieldType} {hh : List (Nat × Nat × Nat × Nat)}
    (hown : s.vm.findClass own = some m.cls) (hlink : (Cond.methodLink own index y).before args s = true) (hstat : (Cond.static y).before args s = true) (hinit : (Cond.initialized y.cls).before args s = true)
    (hcode : (Cond.codeWith y bytes maxL ret hh).before args s = true) (hy : y.cls ≠ "java/lang/invoke/MethodHandle" ∧ y.cls ≠ "java/lang/invoke/VarHandle")
    {W9 : Nat} {Pre : Pt → Array Value → Prop} {Post : Pt → Array Value → Option Value → Pt → Prop} {PostX : Pt → Array Value → Addr → Pt → Prop} (hK : vx_Back l R p e below s args y 3 W9 Pre Post PostX)
    {g : JFrame} (hg : g.method = m) (hsize : g.locals.size = c.maxLocals) {argsL rest : List Value} (hlen : ∀ sig, parseMethodDescriptor y.desc = some sig → argsL.length = sig.parameters.length)
    (hstack : g.stack = argsL.reverse ++ rest) (hW : 2 * g.monitorRoom + (rest.map fun v => v.category).sum ≤ W9) (hdg : decode c.code g.pc = .ok (.invokestatic index, 3))
    (hpre : ∀ vm₁, s.WarmedH vm₁ → Pre ⟨T.setVm vm₁, locs, cells, slots⟩ argsL.toArray) :
    (∃ (v : Option Value) (vm₁ : Vm) (B : Pt), s.WarmedH vm₁ ∧ Stand p l e R s m args below meth c B.U B.locs B.cells B.slots ∧ Post ⟨T.setVm vm₁, locs, cells, slots⟩ argsL.toArray v B ∧
      ∀ target, Steps p.tables e below (B.U.setTop { g with pc := g.pc + 3, stack := v.toList ++ rest }) target → Steps p.tables e below (T.setTop g) target) ∨
    (∃ (q : Addr) (vm₁ : Vm) (B : Pt), s.WarmedH vm₁ ∧ Stand p l e R s m args below meth c B.U B.locs B.cells B.slots ∧ PostX ⟨T.setVm vm₁, locs, cells, slots⟩ argsL.toArray q B ∧
      Steps p.tables e below (T.setTop g) ((B.U.setTop { g with stack := rest }).pushFrame (.throwing q))) := by
  obtain ⟨mk, methM, cM, hnamed, hmethM, -, -, -, -, -, -, hsigM⟩ := Cond.codeWith_spec hcode
  have hstatic : methM.isStatic = true := Cond.static_spec hnamed hmethM hstat
  obtain ⟨kP, hkP, -⟩ := className_of_methodNamed hnamed
  have hinitP : kP.init = .initialized := Cond.initialized_spec (findClass_of_methodNamed hnamed) hkP hinit
  obtain ⟨vm₁, X₁, hstep₁⟩ := X.invokestatic hexec hown hlink hnamed hmethM hstatic hkP hinitP hy (g := g) hg (argsL := argsL) (rest := rest) (hlen _ hsigM) hstack hdg
  rcases hK m meth c ⟨T.setVm vm₁, locs, cells, slots⟩ { g with stack := rest } (.invokestatic index) mk argsL.toArray X₁ hg hsize hdg hW (X₁.named hnamed) (hpre vm₁ X₁.warmed) with ⟨v, B, X', hpost, hsteps⟩ | ⟨q, B, X', hpost, hsteps⟩
  · exact Or.inl ⟨v, vm₁, B, X₁.warmed, X', hpost, fun target h => hstep₁ _ fun acts => by rw [doInvoke_state]; exact hsteps.trans h⟩
  · exact Or.inr ⟨q, vm₁, B, X₁.warmed, X', hpost, hstep₁ _ fun acts => by rw [doInvoke_state]; exact hsteps⟩
theorem vx_callVW (X : Stand p l e R s m args below meth c T locs cells slots) (hexec : p.tables.exec = Jvm.exec) {own C : String} {index : Nat} {y : MethodName} {bytes : ByteArray} {maxL : Nat} {ret : Option FieldType} {hh : List (Nat × Nat × Nat × Nat)}
    (hown : s.vm.findClass own = some m.cls) (hlink : (Cond.methodLink own index y).before args s = true) (hinst : (Cond.instanceMethod y).before args s = true) (hsel : (Cond.selects C y y).before args s = true)
    (hcode : (Cond.codeWith y bytes maxL ret hh).before args s = true) (hy : y.cls ≠ "java/lang/invoke/MethodHandle" ∧ y.cls ≠ "java/lang/invoke/VarHandle")
    {W9 : Nat} {Pre : Pt → Array Value → Prop} {Post : Pt → Array Value → Option Value → Pt → Prop} (hK : Back l R p e below s args y 3 W9 Pre Post)
    {b : Addr} {cellB : Cell} (hcell : T.heap[b]? = some cellB) (hobj : cellB.vm.isStatics = false) (hcls : s.vm.findClass C = some cellB.cls)
    {g : JFrame} (hg : g.method = m) (hsize : g.locals.size = c.maxLocals) {argsL rest : List Value} (hlen : ∀ sig, parseMethodDescriptor y.desc = some sig → argsL.length = sig.parameters.length)
    (hstack : g.stack = argsL.reverse ++ .ref b :: rest) (hW : 2 * g.monitorRoom + (rest.map fun v => v.category).sum ≤ W9) (hdg : decode c.code g.pc = .ok (.invokevirtual index, 3))
    (hpre : ∀ vm₁, s.WarmedH vm₁ → Pre ⟨T.setVm vm₁, locs, cells, slots⟩ (Value.ref b :: argsL).toArray) :
    ∃ (v : Option Value) (vm₁ : Vm) (B : Pt), s.WarmedH vm₁ ∧ Stand p l e R s m args below meth c B.U B.locs B.cells B.slots ∧ Post ⟨T.setVm vm₁, locs, cells, slots⟩ (Value.ref b :: argsL).toArray v B ∧
      ∀ target, Steps p.tables e below (B.U.setTop { g with pc := g.pc + 3, stack := v.toList ++ rest }) target → Steps p.tables e below (T.setTop g) target := by
  obtain ⟨mk, methM, hnamed, hmethM, hstM, habM⟩ := Cond.instanceMethod_spec hinst
  obtain ⟨m8, methM', cM, hn8, hmethM', -, -, -, -, -, -, hsigM⟩ := Cond.codeWith_spec hcode
  cases Option.some.inj (hn8.symm.trans hnamed)
  cases hmethM.symm.trans hmethM'
  obtain ⟨c2, r2, m2, q1, q2, q3, q4, kP, hkP, hkPi⟩ := Cond.selects_spec hsel
  cases hcls.symm.trans q1
  cases (State.methodFound?_of_named hnamed hy).symm.trans q2
  cases hnamed.symm.trans q3
  have hselP : selectMethod e.platform s.vm cellB.cls mk = .method mk := by rw [Launch.admits_selectMethod X.admits]; exact q4
  obtain ⟨vm₁, X₁, hstep₁⟩ := X.invokevirtual hexec hown hlink hnamed hmethM hstM hkP hkPi hy (a := b) (cell := cellB) hcell
    (fun z h => by rw [h] at hobj; cases hobj) hselP hmethM habM hkP hkPi (g := g) hg (argsL := argsL) (rest := rest) (hlen _ hsigM) hstack hdg
  obtain ⟨v, B, X', hpost, hsteps⟩ := hK m meth c ⟨T.setVm vm₁, locs, cells, slots⟩ { g with stack := rest } (.invokevirtual index) mk (Value.ref b :: argsL).toArray X₁ hg hsize hdg hW (X₁.named hnamed) (hpre vm₁ X₁.warmed)
  exact ⟨v, vm₁, B, X₁.warmed, X', hpost, fun target h => hstep₁ _ fun acts => by rw [doInvoke_state]; exact hsteps.trans h⟩
abbrev vx_CVW (R : Room) (s : State) (args : Array Value) (own C : String) (index : Nat) (y : MethodName) (bytes : ByteArray) (maxL : Nat) (ret : Option FieldType) (hh : List (Nat × Nat × Nat × Nat)) (ws : List Cond) (rm : Room) (mc ms n : Nat) : Prop :=
  (rm.cells = mc ∧ rm.slots = ms ∧ rm.frames + 1 ≤ R.frames ∧ 8 + (maxL + 11) + rm.locals ≤ R.locals ∧ (∀ w ∈ ws, ∀ (a' : Array Value) (U : State), s.WarmedH U.vm → w.before a' U = true) ∧ Cond.codeWith y bytes maxL ret hh ∈ ws) ∧
  (Cond.codeWith y bytes maxL ret hh).before args s = true ∧ (Cond.initialized y.cls).before args s = true ∧ (y.cls ≠ "java/lang/invoke/MethodHandle" ∧ y.cls ≠ "java/lang/invoke/VarHandle") ∧
  (∀ sig, parseMethodDescriptor y.desc = some sig → n = sig.parameters.length) ∧ (Cond.methodLink own index y).before args s = true ∧ (Cond.instanceMethod y).before args s = true ∧ (Cond.selects C y y).before args s = true
theorem vx_cwVW {own C : String} {index maxL mc ms : Nat} {y : MethodName} {bytes : ByteArray} {ret : Option FieldType} {hh : List (Nat × Nat × Nat × Nat)} {Ts ws ws' : List Cond} {rm : Room} (n : Nat) (ht : ∀ w ∈ Ts, w.before args s = true) (hT : GoodIn Ts (wsV own index C y ws)) (hw : ws = Cond.codeWith y bytes maxL ret hh :: ws') (hrc : rm.cells = mc) (hrs : rm.slots = ms)
    (hd : y.cls = C ∧ y.cls ≠ "java/lang/invoke/MethodHandle" ∧ y.cls ≠ "java/lang/invoke/VarHandle" ∧ (parseMethodDescriptor y.desc).map (fun d => d.parameters.length) = some n) (hR : rm.frames + 1 ≤ R.frames ∧ 8 + (maxL + 11) + rm.locals ≤ R.locals) :
    vx_CVW R s args own C index y bytes maxL ret hh ws rm mc ms n := by
  obtain ⟨hC, hd⟩ := hd
  subst hC
  have ok : ∀ w ∈ wsV own index y.cls y ws, w.before args s = true := fun w h => ht w (hT w h).1
  have hG : GoodIn Ts ws := fun w h => hT w (by unfold wsV; exact List.mem_append_right _ h)
  have hc : Cond.codeWith y bytes maxL ret hh ∈ ws := by rw [hw]; exact List.mem_cons_self
  refine ⟨⟨hrc, hrs, hR.1, hR.2, pay_in ht hG, hc⟩, ht _ (hG _ hc).1, ok _ (by simp [wsV]), ⟨hd.1, hd.2.1⟩, fun sig h => ?_, ok _ (by simp [wsV]), ok _ (by simp [wsV]), ok _ (by simp [wsV])⟩
  have h2 := hd.2.2
  rw [h] at h2
  exact (Option.some.inj h2).symm
theorem vx_runVW {y : MethodName} {bytes cc : ByteArray} {maxL nL mc ms n index : Nat} {ret : Option FieldType} {hh : List (Nat × Nat × Nat × Nat)} {ws : List Cond} {rm : Room} {Pc : Array Value → State → Prop} {Qc : Array Value → State → Outcome → State → Prop} {free : Addr → Prop} {Ts : List Cond} {own C : String} {b : Addr} {As rest : List Value} {g : JFrame}
    (S : CallFix p m c cc nL s args Ts own) (hM : Met l y ws rm Pc Qc mc ms free) (cw : vx_CVW R s args own C index y bytes maxL ret hh ws rm mc ms n) (hp : PreV s H C b Pc As)
    (hg : g.method = m) (hn : As.length = n) (hsize : g.locals.size = nL) (hstack : g.stack = As.reverse ++ .ref b :: rest) (hW : 2 * g.monitorRoom + (rest.map fun v => v.category).sum ≤ 8) (hdg : decode cc g.pc = .ok (.invokevirtual index, 3)) (hf : cells + mc ≤ R.cells ∧ slots + ms ≤ R.slots) :
    va_Run p l e R s m args below meth c H locs cells slots mc ms g rest (Qc (Value.ref b :: As).toArray) free := by
  obtain ⟨⟨hrc, hrs, hfr, hlo, hws, hcw⟩, hcode, hini, hy, hlen, hl, hin, hse⟩ := cw
  have hK : Back l R p e below s args y 3 8 (PreOf R mc ms Pc) (PostOf Qc mc ms free) := va_backW (hh := hh) (bytes := bytes) (maxL := maxL) (ret := ret) hM hp.1 hrc hrs hfr hlo hws hcw (fun a' U hW => word_at hW (Or.inl (by first | rfl | simp [Cond.onTables, Cond.keeps, Cond.steady])) hini)
  obtain ⟨hx, hb, hml, ho, -⟩ := S
  obtain ⟨-, ⟨cellB, hcB, hoB, hclB⟩, hPc⟩ := hp
  intro T hT X
  obtain ⟨v, vm₁, ⟨U', l2, c2, s2⟩, hW₁, X', ⟨g', mk, t, L, e1, e2, hq, h1, hL, h2, h3⟩, st⟩ := vx_callVW X hx (C := C) (hh := hh) (bytes := bytes) (maxL := maxL) (ret := ret) ho hl hin hse hcode hy hK (by rw [hT]; exact hcB) hoB hclB hg (hsize.trans hml.symm) (argsL := As) (rest := rest) (fun sig h => hn.trans (hlen sig h)) hstack hW (by rw [hb]; exact hdg)
    (fun vm₁ hW₁ => ⟨hf.1, hf.2, hPc (T.setVm vm₁) hT hW₁⟩)
  dsimp only [Pt.U, Pt.locs, Pt.cells, Pt.slots] at X' e1 e2 h1 h2 h3 st
  subst h1; subst h2; subst h3
  exact ⟨v, (T.setVm vm₁).calling g' mk (Value.ref b :: As).toArray, t, U', L, hT, X', hL, e1, e2, hq, st⟩
section
variable {y : MethodName} {bytes cc : ByteArray} {maxL nL mc ms n index : Nat} {ret : Option FieldType} {ws : List Cond} {rm : Room} {Pc : Array Value → State → Prop} {Qc : Array Value → State → Outcome → State → Prop} {XC : String → State → State → Prop} {free : Addr → Prop} {Ts : List Cond} {own C : String} {b : Addr} {As rest : List Value} {g : JFrame}
theorem vx_runVX {hh : List (Nat × Nat × Nat × Nat)} (S : CallFix p m c cc nL s args Ts own) (hM : vx_Met l y ws rm Pc Qc XC mc ms free) (cw : vx_CVW R s args own C index y bytes maxL ret hh ws rm mc ms n) (hp : PreV s H C b Pc As)
    (hg : g.method = m) (hn : As.length = n) (hsize : g.locals.size = nL) (hstack : g.stack = As.reverse ++ .ref b :: rest) (hW : 2 * g.monitorRoom + (rest.map fun v => v.category).sum ≤ 8) (hdg : decode cc g.pc = .ok (.invokevirtual index, 3)) (hf : cells + mc ≤ R.cells ∧ slots + ms ≤ R.slots) :
    vx_Run p l e R s m args below meth c H locs cells slots mc ms g rest (Qc (Value.ref b :: As).toArray) XC free := by
  obtain ⟨⟨hrc, hrs, hfr, hlo, hws, hcw⟩, hcode, hini, hy, hlen, hl, hin, hse⟩ := cw
  have hK : vx_Back l R p e below s args y 3 8 (PreOf R mc ms Pc) (PostOf Qc mc ms free) (vx_Post XC mc ms free) := vx_backW (hh := hh) (bytes := bytes) (maxL := maxL) (ret := ret) hM hp.1 hrc hrs hfr hlo hws hcw (fun a' U hW => word_at hW (Or.inl (by first | rfl | simp [Cond.onTables, Cond.keeps, Cond.steady])) hini)
  obtain ⟨hx, hb, hml, ho, -⟩ := S
  obtain ⟨-, ⟨cellB, hcB, hoB, hclB⟩, hPc⟩ := hp
  intro T hT X
  rcases vx_callVX X hx (C := C) (hh := hh) (bytes := bytes) (maxL := maxL) (ret := ret) ho hl hin hse hcode hy hK (by rw [hT]; exact hcB) hoB hclB hg (hsize.trans hml.symm) (argsL := As) (rest := rest) (fun sig h => hn.trans (hlen sig h)) hstack hW (by rw [hb]; exact hdg)
    (fun vm₁ hW₁ => ⟨hf.1, hf.2, hPc (T.setVm vm₁) hT hW₁⟩) with ⟨v, vm₁, ⟨U', l2, c2, s2⟩, hW₁, X', ⟨g', mk, t, L, e1, e2, hq, h1, hL, h2, h3⟩, st⟩ | ⟨q, vm₁, ⟨U', l2, c2, s2⟩, hW₁, X', ⟨g', mk, t, L, E, ce, e1, e2, hq, hce, hcv, hcl, h1, hL, h2, h3⟩, st⟩
  · dsimp only [Pt.U, Pt.locs, Pt.cells, Pt.slots] at X' e1 e2 h1 h2 h3 st
    subst h1; subst h2; subst h3
    exact Or.inl ⟨v, (T.setVm vm₁).calling g' mk (Value.ref b :: As).toArray, t, U', L, hT, X', hL, e1, e2, hq, st⟩
  · dsimp only [Pt.U, Pt.locs, Pt.cells, Pt.slots] at X' e1 e2 h1 h2 h3 st hcl
    subst h1; subst h2; subst h3
    exact Or.inr ⟨q, (T.setVm vm₁).calling g' mk (Value.ref b :: As).toArray, t, U', L, E, ce, hT, X', hL, e1, e2, hq, hce, hcv, vx_cls hW₁ hcl, st⟩
theorem vx_runSX {hh : List (Nat × Nat × Nat × Nat)} (S : CallFix p m c cc nL s args Ts own) (hM : vx_Met l y ws rm Pc Qc XC mc ms free) (cw : vx_CSW R s args own index y bytes maxL ret hh ws rm mc ms n) (hp : PreS s H Pc As)
    (hg : g.method = m) (hn : As.length = n) (hsize : g.locals.size = nL) (hstack : g.stack = As.reverse ++ rest) (hW : 2 * g.monitorRoom + (rest.map fun v => v.category).sum ≤ 8) (hdg : decode cc g.pc = .ok (.invokestatic index, 3)) (hf : cells + mc ≤ R.cells ∧ slots + ms ≤ R.slots) :
    vx_Run p l e R s m args below meth c H locs cells slots mc ms g rest (Qc As.toArray) XC free := by
  obtain ⟨⟨hrc, hrs, hfr, hlo, hws, hcw⟩, hcode, hini, hy, hlen, hl, hstt⟩ := cw
  have hK : vx_Back l R p e below s args y 3 8 (PreOf R mc ms Pc) (PostOf Qc mc ms free) (vx_Post XC mc ms free) := vx_backW (hh := hh) (bytes := bytes) (maxL := maxL) (ret := ret) hM hp.1 hrc hrs hfr hlo hws hcw (fun a' U hW => word_at hW (Or.inl (by first | rfl | simp [Cond.onTables, Cond.keeps, Cond.steady])) hini)
  obtain ⟨hx, hb, hml, ho, -⟩ := S
  intro T hT X
  rcases vx_callSX X hx (hh := hh) (bytes := bytes) (maxL := maxL) (ret := ret) ho hl hstt hini hcode hy hK hg (hsize.trans hml.symm) (argsL := As) (rest := rest) (fun sig h => hn.trans (hlen sig h)) hstack hW (by rw [hb]; exact hdg)
    (fun vm₁ hW₁ => ⟨hf.1, hf.2, hp.2 (T.setVm vm₁) hT hW₁⟩) with ⟨v, vm₁, ⟨U', l2, c2, s2⟩, hW₁, X', ⟨g', mk, t, L, e1, e2, hq, h1, hL, h2, h3⟩, st⟩ | ⟨q, vm₁, ⟨U', l2, c2, s2⟩, hW₁, X', ⟨g', mk, t, L, E, ce, e1, e2, hq, hce, hcv, hcl, h1, hL, h2, h3⟩, st⟩
  · dsimp only [Pt.U, Pt.locs, Pt.cells, Pt.slots] at X' e1 e2 h1 h2 h3 st
    subst h1; subst h2; subst h3
    exact Or.inl ⟨v, (T.setVm vm₁).calling g' mk As.toArray, t, U', L, hT, X', hL, e1, e2, hq, st⟩
  · dsimp only [Pt.U, Pt.locs, Pt.cells, Pt.slots] at X' e1 e2 h1 h2 h3 st hcl
    subst h1; subst h2; subst h3
    exact Or.inr ⟨q, (T.setVm vm₁).calling g' mk As.toArray, t, U', L, E, ce, hT, X', hL, e1, e2, hq, hce, hcv, vx_cls hW₁ hcl, st⟩
end
end VXH
theorem vx_ofWH {l : Launch} {y : MethodName} {ws ws' : List Cond} {rm : Room} {Pc : Array Value → State → Prop} {Qc : Array Value → State → Outcome → State → Prop} {XC : String → State → State → Prop} {mc ms : Nat} {free : Addr → Prop} {cc : ByteArray} {maxL : Nat} {ret : Option FieldType} {hh : List (Nat × Nat × Nat × Nat)}
    (hy : plainName y.cls = true) (hw : ws = Cond.codeWith y cc maxL ret hh :: ws')
    (body : ∀ p e s m args below meth c s₁, BodyLoose p l y (headSpec ws rm) cc maxL ret e s m args below meth c s₁ → c.maxLocals = maxL → Pc args s →
      W p l e (headSpec ws rm).room s m args below meth c s.heap [] 0 0 (vx_MQ below Qc XC args s mc ms free) (entryFrame m args maxL)) : vx_Met l y ws rm Pc Qc XC mc ms free := by
  refine MetFree.of_bodyS (code := cc) (maxLocals := maxL) (ret := ret) hy ?_ ?_
  · intro args s m h hn
    obtain ⟨m9, meth, c, hn9, h1, h2, h3, h4, -, h5, h6, -⟩ := Cond.codeWith_spec (atoms_spec (ws := ws) h _ (by rw [hw]; exact List.mem_cons_self))
    cases hn.symm.trans hn9
    exact ⟨meth, c, h1, h2, h3, h4, h5, h6⟩
  · intro p e s m args below meth c s₁ B hml hP _
    have hh0 : s₁.heap = s.heap := by rw [B.state]; rfl
    obtain ⟨t, a1, o, b1, b2, b3⟩ := body p e s m args below meth c s₁ B hml hP s₁ hh0 (Stand.of_body B)
    exact ⟨t, o, a1, b1, b2, b3⟩
/-! ===== END ===== -/
end
section
/-! THE ABSTRACT MACHINE: values, cells and heaps by number; what a heap by numbers says of the machine's heap -/
abbrev am_V : Type := Value ⊕ (Nat × Nat)
abbrev am_C : Type := (Nat × Nat × (Nat → Int32)) ⊕ ((Nat × Nat × (Nat → Nat → Int32)) ⊕ ((Nat × List am_V) ⊕ (Nat × (Nat → Int64))))
abbrev am_H : Type := List am_C
abbrev am_O : Type := (Option am_V ⊕ Nat) × am_H
abbrev am_A : Type := (Nat → Option Nat → Nat) × (Nat → Nat)
abbrev am_Lv : Type := List (Nat × am_V)
abbrev am_I : Type := List (Nat × Instr × Nat)
/-- a value: cell k by its address, row j of the grid k by its own, the constant array j by its own -/
def am_t (ad : am_A) : am_V → Value
  | .inl (.ref k) => .ref (ad.1 k none)
  | .inl (.retAddr j) => .ref (ad.2 j)
  | .inl v => v
  | .inr q => .ref (ad.1 q.1 (some q.2))
def am_cat : am_V → Nat
  | .inl v => v.category
  | .inr _ => 1
theorem am_t_cat (ad : am_A) (v : am_V) : (am_t ad v).category = am_cat v := by
  cases v with
  | inl v => cases v <;> rfl
  | inr q => rfl
/-- the machine's cells of the cell k -/
def am_w1 (tc : Nat → ClassId) (ad : am_A) (k : Nat) : am_C → va_W
  | .inl (t, n, f) => [(ad.1 k none, .inl (tc t, n, .inl f))]
  | .inr (.inl (n, w, M)) => (ad.1 k none, .inl (tc 2, n, .inr (.inr (.inr (.inr (fun i => if i < n then some (ad.1 k (some i)) else none)))))) :: (List.range n).map (fun i => (ad.1 k (some i), .inl (tc 0, w, .inl (M i))))
  | .inr (.inr (.inl (ci, fs))) => [(ad.1 k none, .inr (ci, fs.map (am_t ad)))]
  | .inr (.inr (.inr (n, g))) => [(ad.1 k none, .inl (tc 3, n, .inr (.inl g)))]
def am_ws (tc : Nat → ClassId) (ad : am_A) : Nat → am_H → va_W
  | _, [] => []
  | k, c :: h => am_w1 tc ad k c ++ am_ws tc ad (k + 1) h
theorem am_split {tc : Nat → ClassId} {ad : am_A} : ∀ {h : am_H} {k0 k : Nat} {c : am_C}, h[k]? = some c → ∃ pre post : va_W, am_ws tc ad k0 h = pre ++ (am_w1 tc ad (k0 + k) c ++ post) ∧ ∀ c', am_ws tc ad k0 (h.set k c') = pre ++ (am_w1 tc ad (k0 + k) c' ++ post)
  | [], k0, k, c, hk => by simp at hk
  | d :: h, k0, 0, c, hk => by
    simp at hk
    subst hk
    exact ⟨[], am_ws tc ad (k0 + 1) h, rfl, fun c' => rfl⟩
  | d :: h, k0, k + 1, c, hk => by
    have hk' : h[k]? = some c := by simpa using hk
    obtain ⟨pre, post, e1, e2⟩ := am_split (tc := tc) (ad := ad) (k0 := k0 + 1) hk'
    refine ⟨am_w1 tc ad k0 d ++ pre, post, ?_, fun c' => ?_⟩
    · show am_w1 tc ad k0 d ++ am_ws tc ad (k0 + 1) h = _
      rw [e1, List.append_assoc, show k0 + (k + 1) = k0 + 1 + k by omega]
    · show am_w1 tc ad k0 d ++ am_ws tc ad (k0 + 1) (h.set k c') = _
      rw [e2 c', List.append_assoc, show k0 + (k + 1) = k0 + 1 + k by omega]
theorem am_pos {pre w post : va_W} {j : Nat} {x : Nat × va_E} (h : w[j]? = some x) : (pre ++ (w ++ post))[pre.length + j]? = some x := by
  rw [List.getElem?_append_right (Nat.le_add_right _ _), Nat.add_sub_cancel_left, List.getElem?_append_left (List.getElem?_eq_some_iff.mp h).1]
  exact h
theorem am_setw {pre w post : va_W} {j : Nat} {x : Nat × va_E} (h : j < w.length) : (pre ++ (w ++ post)).set (pre.length + j) x = pre ++ (w.set j x ++ post) := by
  rw [List.set_append_right _ _ (Nat.le_add_right _ _), Nat.add_sub_cancel_left, List.set_append_left _ _ h]
def am_tys (tc : Nat → ClassId) : List (ClassId × FieldType) := [(tc 0, .int), (tc 1, .boolean), (tc 2, .array .int), (tc 3, .long)]
/-- the constant arrays -/
def am_ro (rs : Nat → Option (Nat × (Nat → Int32))) (ra : Nat → Nat) (A : Nat → Prop) (U : State) (H : Heap) : Prop := ∀ (j n : Nat) (f : Nat → Int32), rs j = some (n, f) → va_T .int (ra j) n (fun i => .int (f i)) A U H
/-- the heap by numbers, as the machine holds it -/
def am_J (D : va_G) (cl : List vw_C) (tc : Nat → ClassId) (A : Nat → Prop) (s : State) (n0 : Nat) (ad0 : am_A) (ad : am_A) (h : am_H) (H : Heap) (locs : List Loc) : Prop :=
  n0 ≤ h.length ∧ (∀ k, k < n0 → ad.1 k = ad0.1 k) ∧ ad.2 = ad0.2 ∧ va_P D cl (am_ws tc ad 0 h) H ∧ va_D A (am_ws tc ad 0 h) ∧ va_S A s.heap H locs
/-- a read: the place of cell k's j-th machine cell -/
theorem am_rd {D : va_G} {cl : List vw_C} {tc : Nat → ClassId} {A : Nat → Prop} {s : State} {n0 : Nat} {ad0 ad : am_A} {h : am_H} {H : Heap} {locs : List Loc} (J : am_J D cl tc A s n0 ad0 ad h H locs) {k : Nat} {c : am_C} (hk : h[k]? = some c) (j : Nat) {y : Nat × va_E} (hy : (am_w1 tc ad k c)[j]? = some y) : ∃ q0 : Nat, (am_ws tc ad 0 h)[q0]? = some y := by
  obtain ⟨pre, post, e1, -⟩ := am_split (tc := tc) (ad := ad) (k0 := 0) hk
  rw [Nat.zero_add] at e1
  exact ⟨pre.length + j, by rw [e1]; exact am_pos hy⟩
/-- a write: cell k becomes c', its j-th machine cell x -/
theorem am_wr {D : va_G} {cl : List vw_C} {tc : Nat → ClassId} {A : Nat → Prop} {s : State} {n0 : Nat} {ad0 ad : am_A} {h : am_H} {H : Heap} {locs : List Loc} (J : am_J D cl tc A s n0 ad0 ad h H locs) {k : Nat} {c : am_C} (hk : h[k]? = some c) (c' : am_C) (j : Nat) (x : Nat × va_E) (hj : j < (am_w1 tc ad k c).length) (ew : am_w1 tc ad k c' = (am_w1 tc ad k c).set j x) :
    ∃ q0 : Nat, (∀ y, (am_w1 tc ad k c)[j]? = some y → (am_ws tc ad 0 h)[q0]? = some y) ∧ ∀ (H1 : Heap) (locs1 : List Loc), va_P D cl ((am_ws tc ad 0 h).set q0 x) H1 → va_D A ((am_ws tc ad 0 h).set q0 x) → va_S A s.heap H1 locs1 → am_J D cl tc A s n0 ad0 ad (h.set k c') H1 locs1 := by
  obtain ⟨pre, post, e1, e2⟩ := am_split (tc := tc) (ad := ad) (k0 := 0) hk
  rw [Nat.zero_add] at e1 e2
  obtain ⟨j1, j2, j3, j4, j5, j6⟩ := J
  refine ⟨pre.length + j, fun y hy => by rw [e1]; exact am_pos hy, fun H1 locs1 hP hD hS => ?_⟩
  have e3 : (am_ws tc ad 0 h).set (pre.length + j) x = am_ws tc ad 0 (h.set k c') := by rw [e1, am_setw hj, e2 c', ew]
  rw [e3] at hP hD
  exact ⟨by rw [List.length_set]; exact j1, j2, j3, hP, hD, hS⟩
/-- one row of a grid, one array -/
theorem am_rowset {α : Type} (g g' : Nat → α) (n j : Nat) (x : α) (hj : j < n) (h1 : g' j = x) (h2 : ∀ a, a ≠ j → g' a = g a) : (List.range n).map g' = ((List.range n).map g).set j x := by
  apply List.ext_getElem?
  intro a
  by_cases ha : a = j
  · subst ha
    rw [List.getElem?_set_self (by simpa using hj)]
    simp [hj, h1]
  · rw [List.getElem?_set_ne (Ne.symm ha)]
    by_cases hn : a < n
    · simp [hn, h2 a ha]
    · simp [hn]
section AMJ
variable {D : va_G} {cl : List vw_C} {tc : Nat → ClassId} {A : Nat → Prop} {s : State} {n0 : Nat} {ad0 ad : am_A} {h : am_H} {H : Heap} {locs : List Loc}
theorem am_rdR (J : am_J D cl tc A s n0 ad0 ad h H locs) {k n w j : Nat} {M : Nat → Nat → Int32} (hk : h[k]? = some (.inr (.inl (n, w, M)))) (hj : j < n) : ∃ q0 : Nat, (am_ws tc ad 0 h)[q0]? = some (ad.1 k (some j), .inl (tc 0, w, .inl (M j))) := by
  refine am_rd J hk (j + 1) ?_
  show ((List.range n).map (fun i => (ad.1 k (some i), (Sum.inl (tc 0, w, .inl (M i)) : va_E))))[j]? = _
  rw [List.getElem?_map, List.getElem?_range hj]
  rfl
theorem am_wrR (J : am_J D cl tc A s n0 ad0 ad h H locs) {k n w j : Nat} {M : Nat → Nat → Int32} (hk : h[k]? = some (.inr (.inl (n, w, M)))) (hj : j < n) (f : Nat → Int32) : ∃ q0 : Nat, (am_ws tc ad 0 h)[q0]? = some (ad.1 k (some j), .inl (tc 0, w, .inl (M j))) ∧ ∀ (H1 : Heap) (locs1 : List Loc), va_P D cl ((am_ws tc ad 0 h).set q0 (ad.1 k (some j), .inl (tc 0, w, .inl f))) H1 → va_D A ((am_ws tc ad 0 h).set q0 (ad.1 k (some j), .inl (tc 0, w, .inl f))) → va_S A s.heap H1 locs1 → am_J D cl tc A s n0 ad0 ad (h.set k (.inr (.inl (n, w, va_up M j f)))) H1 locs1 := by
  obtain ⟨q0, g1, g2⟩ := am_wr J hk (.inr (.inl (n, w, va_up M j f))) (j + 1) (ad.1 k (some j), .inl (tc 0, w, .inl f)) (by
    show j + 1 < ((List.range n).map (fun i => (ad.1 k (some i), (Sum.inl (tc 0, w, .inl (M i)) : va_E)))).length + 1
    rw [List.length_map, List.length_range]
    exact Nat.succ_lt_succ hj) (by
    show _ :: (List.range n).map (fun i => (ad.1 k (some i), (Sum.inl (tc 0, w, .inl (va_up M j f i)) : va_E))) = _ :: ((List.range n).map (fun i => (ad.1 k (some i), (Sum.inl (tc 0, w, .inl (M i)) : va_E)))).set j _
    congr 1
    exact am_rowset _ _ _ _ _ hj (by rw [va_up_self]) (fun a ha => by rw [show va_up M j f a = M a from if_neg ha]))
  refine ⟨q0, g1 _ ?_, g2⟩
  show ((List.range n).map (fun i => (ad.1 k (some i), (Sum.inl (tc 0, w, .inl (M i)) : va_E))))[j]? = _
  rw [List.getElem?_map, List.getElem?_range hj]
  rfl
theorem am_wrA (J : am_J D cl tc A s n0 ad0 ad h H locs) {k t n : Nat} {f : Nat → Int32} (hk : h[k]? = some (.inl (t, n, f))) (f' : Nat → Int32) : ∃ q0 : Nat, (am_ws tc ad 0 h)[q0]? = some (ad.1 k none, .inl (tc t, n, .inl f)) ∧ ∀ (H1 : Heap) (locs1 : List Loc), va_P D cl ((am_ws tc ad 0 h).set q0 (ad.1 k none, .inl (tc t, n, .inl f'))) H1 → va_D A ((am_ws tc ad 0 h).set q0 (ad.1 k none, .inl (tc t, n, .inl f'))) → va_S A s.heap H1 locs1 → am_J D cl tc A s n0 ad0 ad (h.set k (.inl (t, n, f'))) H1 locs1 := by
  obtain ⟨q0, g1, g2⟩ := am_wr J hk (.inl (t, n, f')) 0 (ad.1 k none, .inl (tc t, n, .inl f')) (by show 0 < 1; exact Nat.one_pos) rfl
  exact ⟨q0, g1 _ rfl, g2⟩
theorem am_wrL (J : am_J D cl tc A s n0 ad0 ad h H locs) {k n : Nat} {f : Nat → Int64} (hk : h[k]? = some (.inr (.inr (.inr (n, f))))) (f' : Nat → Int64) : ∃ q0 : Nat, (am_ws tc ad 0 h)[q0]? = some (ad.1 k none, .inl (tc 3, n, .inr (.inl f))) ∧ ∀ (H1 : Heap) (locs1 : List Loc), va_P D cl ((am_ws tc ad 0 h).set q0 (ad.1 k none, .inl (tc 3, n, .inr (.inl f')))) H1 → va_D A ((am_ws tc ad 0 h).set q0 (ad.1 k none, .inl (tc 3, n, .inr (.inl f')))) → va_S A s.heap H1 locs1 → am_J D cl tc A s n0 ad0 ad (h.set k (.inr (.inr (.inr (n, f'))))) H1 locs1 := by
  obtain ⟨q0, g1, g2⟩ := am_wr J hk (.inr (.inr (.inr (n, f')))) 0 (ad.1 k none, .inl (tc 3, n, .inr (.inl f'))) (by show 0 < 1; exact Nat.one_pos) rfl
  exact ⟨q0, g1 _ rfl, g2⟩
theorem am_wrO (J : am_J D cl tc A s n0 ad0 ad h H locs) {k ci : Nat} {fs : List am_V} (hk : h[k]? = some (.inr (.inr (.inl (ci, fs))))) (fs' : List am_V) : ∃ q0 : Nat, (am_ws tc ad 0 h)[q0]? = some (ad.1 k none, .inr (ci, fs.map (am_t ad))) ∧ ∀ (H1 : Heap) (locs1 : List Loc), va_P D cl ((am_ws tc ad 0 h).set q0 (ad.1 k none, .inr (ci, fs'.map (am_t ad)))) H1 → va_D A ((am_ws tc ad 0 h).set q0 (ad.1 k none, .inr (ci, fs'.map (am_t ad)))) → va_S A s.heap H1 locs1 → am_J D cl tc A s n0 ad0 ad (h.set k (.inr (.inr (.inl (ci, fs'))))) H1 locs1 := by
  obtain ⟨q0, g1, g2⟩ := am_wr J hk (.inr (.inr (.inl (ci, fs')))) 0 (ad.1 k none, .inr (ci, fs'.map (am_t ad))) (by show 0 < 1; exact Nat.one_pos) rfl
  exact ⟨q0, g1 _ rfl, g2⟩
end AMJ
/-- the judgement: from here, with these locals, stack, heap and room left, the machine comes to Q -/
def am_W (p : Program) (l : Launch) (e : Env) (R : Room) (s : State) (m : MethodId) (args : Array Value) (below : List Frame) (meth : Method) (c : Code) (Q : State → Prop) (D : va_G) (cl : List vw_C) (tc : Nat → ClassId) (A : Nat → Prop) (nL n0 : Nat) (ad0 : am_A) (pc : Nat) (lv : am_Lv) (st : List am_V) (h : am_H) (b : Nat × Nat) : Prop :=
  ∀ (ad : am_A) (H : Heap) (locs : List Loc) (cells slots : Nat) (ls : Array Slot), am_J D cl tc A s n0 ad0 ad h H locs → lv_has ls nL (lv.map fun q => (q.1, am_t ad q.2)) → cells + b.1 ≤ R.cells → slots + b.2 ≤ R.slots → W p l e R s m args below meth c H locs cells slots Q (F0 m pc ls (st.map (am_t ad)))
def am_G (p : Program) (m : MethodId) (c : Code) (cc : ByteArray) (nL : Nat) (s : State) (args : Array Value) (Ts : List Cond) (own : String) (D : va_G) (cl : List vw_C) (tc : Nat → ClassId) (A : Nat → Prop) (rs : Nat → Option (Nat × (Nat → Int32))) (ad0 : am_A) : Prop :=
  CallFix p m c cc nL s args Ts own ∧ va_K D cl (am_tys tc) s ∧ (∀ q, s.heap.size ≤ q → A q) ∧ am_ro rs ad0.2 A s s.heap
/-! the run, with what comes next as an argument -/
/-- locals are kept by rising numbers -/
def am_ins (i : Nat) (v : am_V) : am_Lv → am_Lv
  | [] => [(i, v)]
  | (j, w) :: r => if i < j then (i, v) :: (j, w) :: r else (j, w) :: am_ins i v r
theorem am_ins_mem {i : Nat} {v : am_V} : ∀ {lv : am_Lv} {q : Nat × am_V}, q ∈ am_ins i v lv → q = (i, v) ∨ q ∈ lv
  | [], q, h => Or.inl (by simpa [am_ins] using h)
  | (j, w) :: r, q, h => by
    unfold am_ins at h
    split at h
    · exact List.mem_cons.mp h
    · rcases List.mem_cons.mp h with h | h
      · exact Or.inr (h ▸ List.mem_cons_self)
      · rcases am_ins_mem h with h | h
        · exact Or.inl h
        · exact Or.inr (List.mem_cons_of_mem _ h)
def am_sv (lv : am_Lv) (i : Nat) (v : am_V) : am_Lv := am_ins i v (lv.filter (fun q => !(q.1 == i) && !(q.1 + 1 == i && am_cat q.2 == 2)))
/-- at some places (loops' heads) only some locals are kept -/
abbrev am_Kp : Type := List (Nat × List Nat)
def am_kp (kp : am_Kp) (pc : Nat) (lv : am_Lv) : am_Lv := match kp.lookup pc with
  | some ks => lv.filter (fun q => ks.contains q.1)
  | none => lv
theorem am_kp_sub {kp : am_Kp} {pc : Nat} {lv : am_Lv} : ∀ q ∈ am_kp kp pc lv, q ∈ lv := by
  intro q hq
  unfold am_kp at hq
  split at hq
  · exact (List.mem_filter.mp hq).1
  · exact hq
abbrev am_K1 : Type := am_Lv → List am_V → Option am_O
abbrev am_K2 : Type := List am_V → am_H → Option am_O
abbrev am_K3 : Type := List am_V → am_H → Nat × Nat → Option am_O
def am_li (lv : am_Lv) (k : Nat) (st : List am_V) (K : am_K1) : Option am_O := match lv.lookup k with
  | some (.inl (.int x)) => K lv (.inl (.int x) :: st)
  | _ => none
def am_la (lv : am_Lv) (k : Nat) (st : List am_V) (K : am_K1) : Option am_O := match lv.lookup k with
  | some (.inl (.ref x)) => K lv (.inl (.ref x) :: st)
  | some (.inl (.retAddr x)) => K lv (.inl (.retAddr x) :: st)
  | some (.inr x) => K lv (.inr x :: st)
  | _ => none
def am_si (nL : Nat) (lv : am_Lv) (k : Nat) (st : List am_V) (K : am_K1) : Option am_O := match st with
  | .inl (.int x) :: r => if k < nL then K (am_sv lv k (.inl (.int x))) r else none
  | _ => none
def am_sa (nL : Nat) (lv : am_Lv) (k : Nat) (st : List am_V) (K : am_K1) : Option am_O := match st with
  | .inl (.ref x) :: r => if k < nL then K (am_sv lv k (.inl (.ref x))) r else none
  | .inl (.retAddr x) :: r => if k < nL then K (am_sv lv k (.inl (.retAddr x))) r else none
  | .inr x :: r => if k < nL then K (am_sv lv k (.inr x)) r else none
  | _ => none
def am_2 (lv : am_Lv) (st : List am_V) (g : Int32 → Int32 → Int32) (K : am_K1) : Option am_O := match st with
  | .inl (.int y) :: .inl (.int x) :: r => K lv (.inl (.int (g x y)) :: r)
  | _ => none
def am_2z (lv : am_Lv) (st : List am_V) (g : Int32 → Int32 → Int32) (K : am_K1) : Option am_O := match st with
  | .inl (.int y) :: .inl (.int x) :: r => if y = 0 then none else K lv (.inl (.int (g x y)) :: r)
  | _ => none
def am_ic (nL : Nat) (lv : am_Lv) (k : Nat) (z : Int) (st : List am_V) (K : am_K1) : Option am_O := match lv.lookup k with
  | some (.inl (.int x)) => if k < nL then K (am_sv lv k (.inl (.int (x + Int32.ofInt z)))) st else none
  | _ => none
def am_du (lv : am_Lv) (st : List am_V) (K : am_K1) : Option am_O := match st with
  | v :: r => if am_cat v = 1 then K lv (v :: v :: r) else none
  | _ => none
def am_d2 (lv : am_Lv) (st : List am_V) (K : am_K1) : Option am_O := match st with
  | v :: w :: r => if am_cat v = 1 then (if am_cat w = 1 then K lv (v :: w :: v :: w :: r) else none) else none
  | _ => none
def am_dx (lv : am_Lv) (st : List am_V) (K : am_K1) : Option am_O := match st with
  | v :: w :: r => if am_cat v = 1 then (if am_cat w = 1 then K lv (v :: w :: v :: r) else none) else none
  | _ => none
def am_po (lv : am_Lv) (st : List am_V) (K : am_K1) : Option am_O := match st with
  | v :: r => if am_cat v = 1 then K lv r else none
  | _ => none
def am_il (lv : am_Lv) (st : List am_V) (K : am_K1) : Option am_O := match st with
  | .inl (.int x) :: r => K lv (.inl (.long x.toInt64) :: r)
  | _ => none
def am_lc (lv : am_Lv) (st : List am_V) (K : am_K1) : Option am_O := match st with
  | .inl (.long y) :: .inl (.long x) :: r => K lv (.inl (.int (lg_cmp x y)) :: r)
  | _ => none
def am_s1 (nL : Nat) (i : Instr) (n : Nat) (lv : am_Lv) (st : List am_V) (K : am_K1) : Option am_O := match i with
  | .iconst z => if n = 1 then K lv (.inl (.int (Int32.ofInt z)) :: st) else none
  | .bipush z => if n = 2 then K lv (.inl (.int (Int8.ofInt z).toInt32) :: st) else none
  | .sipush z => if n = 3 then K lv (.inl (.int (Int16.ofInt z).toInt32) :: st) else none
  | .iload k => if n = 2 then am_li lv k st K else none
  | .iload_n k => if n = 1 then am_li lv k.val st K else none
  | .aload k => if n = 2 then am_la lv k st K else none
  | .aload_n k => if n = 1 then am_la lv k.val st K else none
  | .istore k => if n = 2 then am_si nL lv k st K else none
  | .istore_n k => if n = 1 then am_si nL lv k.val st K else none
  | .astore k => if n = 2 then am_sa nL lv k st K else none
  | .astore_n k => if n = 1 then am_sa nL lv k.val st K else none
  | .iinc k z => if n = 3 then am_ic nL lv k z st K else none
  | .iadd => if n = 1 then am_2 lv st (fun x y => x + y) K else none
  | .isub => if n = 1 then am_2 lv st (fun x y => x - y) K else none
  | .imul => if n = 1 then am_2 lv st (fun x y => x * y) K else none
  | .iand => if n = 1 then am_2 lv st (fun x y => x &&& y) K else none
  | .ior => if n = 1 then am_2 lv st (fun x y => x ||| y) K else none
  | .ixor => if n = 1 then am_2 lv st (fun x y => x ^^^ y) K else none
  | .idiv => if n = 1 then am_2z lv st (fun x y => x / y) K else none
  | .irem => if n = 1 then am_2z lv st (fun x y => x - x / y * y) K else none
  | .dup => if n = 1 then am_du lv st K else none
  | .dup2 => if n = 1 then am_d2 lv st K else none
  | .dup_x1 => if n = 1 then am_dx lv st K else none
  | .pop => if n = 1 then am_po lv st K else none
  | .i2l => if n = 1 then am_il lv st K else none
  | .lcmp => if n = 1 then am_lc lv st K else none
  | _ => none
/-! arrays -/
def am_in (i : Int32) (n : Nat) : Bool := !(decide (i < 0) || decide (n ≤ i.toNatClampNeg))
def am_nar (t : Nat) (x : Int32) : Int32 := if t = 1 then vp_nar .boolean x else x
def am_ld (t : Nat) (rs : Nat → Option (Nat × (Nat → Int32))) (st : List am_V) (h : am_H) (K : am_K2) : Option am_O := match st with
  | .inl (.int i) :: .inl (.ref k) :: r => (match h[k]? with
    | some (.inl (t', n, f)) => if t' = t then (bif am_in i n then K (.inl (.int (f i.toNatClampNeg)) :: r) h else none) else none
    | _ => none)
  | .inl (.int i) :: .inr (k, j) :: r => (match h[k]? with
    | some (.inr (.inl (n, w, M))) => if t = 0 then (bif decide (j < n) && am_in i w then K (.inl (.int (M j i.toNatClampNeg)) :: r) h else none) else none
    | _ => none)
  | .inl (.int i) :: .inl (.retAddr j) :: r => (match rs j with
    | some (n, f) => if t = 0 then (bif am_in i n then K (.inl (.int (f i.toNatClampNeg)) :: r) h else none) else none
    | _ => none)
  | _ => none
def am_sr (t : Nat) (st : List am_V) (h : am_H) (K : am_K2) : Option am_O := match st with
  | .inl (.int x) :: .inl (.int i) :: .inl (.ref k) :: r => (match h[k]? with
    | some (.inl (t', n, f)) => if t' = t then (bif am_in i n then K r (h.set k (.inl (t', n, upd f i.toNatClampNeg (am_nar t' x)))) else none) else none
    | _ => none)
  | .inl (.int x) :: .inl (.int i) :: .inr (k, j) :: r => (match h[k]? with
    | some (.inr (.inl (n, w, M))) => if t = 0 then (bif decide (j < n) && am_in i w then K r (h.set k (.inr (.inl (n, w, va_up M j (upd (M j) i.toNatClampNeg x))))) else none) else none
    | _ => none)
  | _ => none
def am_al (rs : Nat → Option (Nat × (Nat → Int32))) (st : List am_V) (h : am_H) (K : am_K2) : Option am_O := match st with
  | .inl (.ref k) :: r => (match h[k]? with
    | some (.inl (t, n, _)) => if t < 2 then K (.inl (.int (Int32.ofNat n)) :: r) h else none
    | some (.inr (.inl (n, _))) => K (.inl (.int (Int32.ofNat n)) :: r) h
    | _ => none)
  | .inr (k, j) :: r => (match h[k]? with
    | some (.inr (.inl (n, w, _))) => bif decide (j < n) then K (.inl (.int (Int32.ofNat w)) :: r) h else none
    | _ => none)
  | .inl (.retAddr j) :: r => (match rs j with
    | some (n, _) => K (.inl (.int (Int32.ofNat n)) :: r) h
    | _ => none)
  | _ => none
def am_aa (st : List am_V) (h : am_H) (K : am_K2) : Option am_O := match st with
  | .inl (.int i) :: .inl (.ref k) :: r => (match h[k]? with
    | some (.inr (.inl (n, _))) => bif am_in i n then K (.inr (k, i.toNatClampNeg) :: r) h else none
    | _ => none)
  | _ => none
def am_ll (st : List am_V) (h : am_H) (K : am_K2) : Option am_O := match st with
  | .inl (.int i) :: .inl (.ref k) :: r => (match h[k]? with
    | some (.inr (.inr (.inr (n, f)))) => bif am_in i n then K (.inl (.long (f i.toNatClampNeg)) :: r) h else none
    | _ => none)
  | _ => none
def am_sl (st : List am_V) (h : am_H) (K : am_K2) : Option am_O := match st with
  | .inl (.long x) :: .inl (.int i) :: .inl (.ref k) :: r => (match h[k]? with
    | some (.inr (.inr (.inr (n, f)))) => bif am_in i n then K r (h.set k (.inr (.inr (.inr (n, vp_updL f i.toNatClampNeg x))))) else none
    | _ => none)
  | _ => none
def am_s2 (rs : Nat → Option (Nat × (Nat → Int32))) (i : Instr) (n : Nat) (st : List am_V) (h : am_H) (K : am_K2) : Option am_O := match i with
  | .iaload => if n = 1 then am_ld 0 rs st h K else none
  | .baload => if n = 1 then am_ld 1 rs st h K else none
  | .iastore => if n = 1 then am_sr 0 st h K else none
  | .bastore => if n = 1 then am_sr 1 st h K else none
  | .arraylength => if n = 1 then am_al rs st h K else none
  | .aaload => if n = 1 then am_aa st h K else none
  | .laload => if n = 1 then am_ll st h K else none
  | .lastore => if n = 1 then am_sl st h K else none
  | _ => none
/-! jumps -/
def am_cmp (k : Jvm.ClassFile.Cond) (x y : Int32) : Bool := match k with
  | .eq => decide (x = y)
  | .ne => !decide (x = y)
  | .lt => decide (x < y)
  | .ge => decide (y ≤ x)
  | .gt => decide (y < x)
  | .le => decide (x ≤ y)
def am_tg (pc : Nat) (off : Int) (K : Nat → Option am_O) : Option am_O := match (pc : Int) + off with
  | .ofNat t => K t
  | .negSucc _ => none
def am_tsl (x : Int32) (K : Int → Option am_O) (d : Int) : Int → List Int → Option am_O
  | _, [] => K d
  | v, o :: os => bif decide (x.toInt = v) then K o else am_tsl x K d (v + 1) os
def am_lsl (x : Int32) (K : Int → Option am_O) (d : Int) : List (Int × Int) → Option am_O
  | [] => K d
  | (v, o) :: os => bif decide (v = x.toInt) then K o else am_lsl x K d os
def am_br (pc : Nat) (i : Instr) (n : Nat) (st : List am_V) (K : List am_V → Nat → Option am_O) (N : List am_V → Option am_O) : Option am_O := match i with
  | .goto off => if n = 3 then am_tg pc off (fun t => K st t) else none
  | .if_icmp k off => if n = 3 then (match st with
    | .inl (.int y) :: .inl (.int x) :: r => am_tg pc off (fun t => bif am_cmp k x y then K r t else N r)
    | _ => none) else none
  | .ifCond k off => if n = 3 then (match st with
    | .inl (.int x) :: r => am_tg pc off (fun t => bif am_cmp k x 0 then K r t else N r)
    | _ => none) else none
  | .tableswitch d lo hi offs => (match st with
    | .inl (.int x) :: r => if hi = lo + offs.toList.length - 1 then am_tsl x (fun o => am_tg pc o (fun t => K r t)) d lo offs.toList else none
    | _ => none)
  | .lookupswitch d ps => (match st with
    | .inl (.int x) :: r => if (ps.toList.zip (ps.toList.drop 1)).all (fun (a, next) => a.1 < next.1) = true then am_lsl x (fun o => am_tg pc o (fun t => K r t)) d ps.toList else none
    | _ => none)
  | _ => none
/-! returns -/
def am_rt (rt : Option FieldType) (x : Int32) : Bool := match rt with
  | some .int => true
  | some .boolean => decide (x = 0) || decide (x = 1)
  | _ => false
def am_re (rt : Option FieldType) (i : Instr) (n : Nat) (st : List am_V) (h : am_H) : Option am_O := match i with
  | .ireturn => if n = 1 then (match st with
    | [.inl (.int x)] => bif am_rt rt x then some (.inl (some (.inl (.int x))), h) else none
    | _ => none) else none
  | .return_ => if n = 1 then (match st with
    | [] => if rt = none then some (.inl none, h) else none
    | _ => none) else none
  | _ => none
/-! what the pool's entries do -/
abbrev am_KX : Type := Nat → am_H → Nat × Nat → Option am_O
abbrev am_F : Type := am_I → am_Lv → List am_V → am_H → Nat × Nat → am_K3 → am_KX → Option am_O
abbrev am_X : Type := List ((Nat × Nat) × am_F)
def am_key (i : Instr) : Nat × Nat := match i with
  | .getfield k => (0, k)
  | .putfield k => (1, k)
  | .invokestatic k => (2, k)
  | .invokevirtual k => (3, k)
  | .invokespecial k => (4, k)
  | .new k => (5, k)
  | .getstatic k => (6, k)
  | .multianewarray k _ => (7, k)
  | .newarray .int => (8, 0)
  | .newarray .boolean => (8, 1)
  | .newarray .long => (8, 2)
  | _ => (99, 0)
/-- 0: neither heap nor jump, 1: an array, 2: a jump, 3: an end, 4: the pool's -/
def am_cls (i : Instr) : Nat := match i with
  | .iaload => 1
  | .baload => 1
  | .iastore => 1
  | .bastore => 1
  | .arraylength => 1
  | .aaload => 1
  | .laload => 1
  | .lastore => 1
  | .goto _ => 2
  | .if_icmp _ _ => 2
  | .ifCond _ _ => 2
  | .tableswitch _ _ _ _ => 2
  | .lookupswitch _ _ => 2
  | .ireturn => 3
  | .return_ => 3
  | .getfield _ => 4
  | .putfield _ => 4
  | .invokestatic _ => 4
  | .invokevirtual _ => 4
  | .invokespecial _ => 4
  | .new _ => 4
  | .getstatic _ => 4
  | .multianewarray _ _ => 4
  | .newarray _ => 4
  | _ => 0
abbrev am_Kj : Type := Nat → am_Lv → List am_V → am_H → Nat × Nat → Option am_O
def am_from (t : Nat) (is : am_I) : am_I := is.dropWhile (fun x => !(x.1 == t))
/-- the handler of an exception: from, to, its place, the class's entry, its number -/
abbrev am_Hs : Type := List (Nat × Nat × Nat × Nat × Nat)
/-- the exceptions' numbers are 0 .. 4; what is above stands for 4 -/
def am_x4 (x : Nat) : Nat := if x < 4 then x else 4
def am_fh (hs : am_Hs) (pc x : Nat) : Option Nat := match hs with
  | [] => none
  | (a, z, t, _, y) :: r => if a ≤ pc then (if pc < z then (if am_x4 x = y then some t else am_fh r pc x) else am_fh r pc x) else am_fh r pc x
def am_rm (lv : am_Lv) (k : Nat) : am_Lv := lv.filter (fun q => !(q.1 == k) && !(q.1 + 1 == k && am_cat q.2 == 2))
def am_go (X : am_X) (nL : Nat) (rt : Option FieldType) (rs : Nat → Option (Nat × (Nat → Int32))) (hs : am_Hs) (kp : am_Kp) (jmp : am_Kj) : Nat → am_I → am_Lv → List am_V → am_H → Nat × Nat → Option am_O
  | 0, _, _, _, _, _ => none
  | _ + 1, [], _, _, _, _ => none
  | f + 1, (pc, i, n) :: is, lv, st, h, b => match am_cls i with
    | 0 => am_s1 nL i n (am_kp kp pc lv) st (fun lv' st' => am_go X nL rt rs hs kp jmp f is lv' st' h b)
    | 1 => am_s2 rs i n st h (fun st' h' => am_go X nL rt rs hs kp jmp f is (am_kp kp pc lv) st' h' b)
    | 2 => am_br pc i n st (fun st' t => if t ≤ pc then jmp t (am_kp kp t lv) st' h b else am_go X nL rt rs hs kp jmp f (am_from t is) lv st' h b) (fun st' => am_go X nL rt rs hs kp jmp f is lv st' h b)
    | 3 => am_re rt i n st h
    | _ => match X.lookup (am_key i) with
      | some φ => φ ((pc, i, n) :: is) lv st h b (fun st' h' b' => am_go X nL rt rs hs kp jmp f is lv st' h' b') (fun x h' b' => match am_fh hs pc x with
        | none => some (.inr x, h')
        | some t => (match am_from t is with
          | (_, .astore k, n9) :: is' => if n9 = 2 then (if k < nL then am_go X nL rt rs hs kp jmp f is' (am_rm lv k) [] h' b' else none) else none
          | (_, .astore_n k, n9) :: is' => if n9 = 1 then (if k.val < nL then am_go X nL rt rs hs kp jmp f is' (am_rm lv k.val) [] h' b' else none) else none
          | _ => none))
      | none => none
def am_lp (T : am_I) (X : am_X) (nL : Nat) (rt : Option FieldType) (rs : Nat → Option (Nat × (Nat → Int32))) (hs : am_Hs) (kp : am_Kp) : Nat → am_Kj
  | 0 => fun _ _ _ _ _ => none
  | n + 1 => fun pc lv st h b => am_go X nL rt rs hs kp (am_lp T X nL rt rs hs kp n) 1000 (am_from pc T) lv st h b
def am_args : Nat → List am_V → am_Lv
  | _, [] => []
  | i, v :: vs => (i, v) :: am_args (if am_cat v = 2 then i + 2 else i + 1) vs
end
section
/-! the run is sound: what it says, the machine does -/
theorem am_if {α : Type} {P : Prop} [Decidable P] {X : Option α} {y : α} (h : (if P then X else none) = some y) : P ∧ X = some y := by
  by_cases hP : P
  · rw [if_pos hP] at h; exact ⟨hP, h⟩
  · rw [if_neg hP] at h; cases h
theorem am_ifn {α : Type} {P : Prop} [Decidable P] {X : Option α} {y : α} (h : (if P then none else X) = some y) : ¬ P ∧ X = some y := by
  by_cases hP : P
  · rw [if_pos hP] at h; cases h
  · rw [if_neg hP] at h; exact ⟨hP, h⟩
theorem am_bif {α : Type} {b : Bool} {X : Option α} {y : α} (h : (bif b then X else none) = some y) : b = true ∧ X = some y := by
  cases b
  · cases h
  · exact ⟨rfl, h⟩
theorem am_lk : ∀ {lv : am_Lv} {k : Nat} {v : am_V}, lv.lookup k = some v → (k, v) ∈ lv
  | [], k, v, h => by simp at h
  | (k', v') :: lv, k, v, h => by
    simp only [List.lookup] at h
    split at h
    · rename_i e
      have := eq_of_beq e
      subst this
      cases h
      exact List.mem_cons_self
    · exact List.mem_cons_of_mem _ (am_lk h)
theorem am_lat {ls : Array Slot} {nL : Nat} {lv : am_Lv} {ad : am_A} {k : Nat} {v : am_V} (hl : lv_has ls nL (lv.map fun q => (q.1, am_t ad q.2))) (h : lv.lookup k = some v) : ls[k]? = some (.val (am_t ad v)) :=
  hl.2.2 (k, am_t ad v) (List.mem_map.mpr ⟨(k, v), am_lk h, rfl⟩)
theorem am_svh {ls : Array Slot} {nL : Nat} {ad : am_A} {lv : am_Lv} {i : Nat} {v : am_V} (h : lv_has ls nL ((i, am_t ad v) :: (lv.map fun q => (q.1, am_t ad q.2)).filter (fun q => !(q.1 == i) && !(q.1 + 1 == i && q.2.category == 2)))) : lv_has ls nL ((am_sv lv i v).map (fun q => (q.1, am_t ad q.2))) := by
  refine ⟨h.1, h.2.1, fun q hq => ?_⟩
  obtain ⟨w, hw, rfl⟩ := List.mem_map.mp hq
  rcases am_ins_mem hw with rfl | hw
  · exact h.2.2 _ List.mem_cons_self
  · refine h.2.2 _ (List.mem_cons_of_mem _ ?_)
    obtain ⟨h1, h2⟩ := List.mem_filter.mp hw
    refine List.mem_filter.mpr ⟨List.mem_map.mpr ⟨w, h1, rfl⟩, ?_⟩
    simpa only [am_t_cat] using h2
theorem am_invp {i : Int32} {n : Nat} (h : am_in i n = true) : vp_in i n := by
  simpa [am_in, vp_in] using h
section AMS
variable {p : Program} {l : Launch} {e : Env} {R : Room} {s : State} {m : MethodId} {args : Array Value} {below : List Frame} {meth : Method} {c : Code} {Q : State → Prop} {D : va_G} {cl : List vw_C} {tc : Nat → ClassId} {A : Nat → Prop} {nL n0 : Nat} {ad0 : am_A} {cc : ByteArray} {own : String} {Ts : List Cond} {rs : Nat → Option (Nat × (Nat → Int32))}
theorem am_s1_ok (G : am_G p m c cc nL s args Ts own D cl tc A rs ad0) {i : Instr} {n pc : Nat} {lv : am_Lv} {st : List am_V} {h : am_H} {b : Nat × Nat} {K : am_K1} {out : am_O} (hd : decode cc pc = .ok (i, n)) (h1 : am_s1 nL i n lv st K = some out) (kk : ∀ lv' st', K lv' st' = some out → am_W p l e R s m args below meth c Q D cl tc A nL n0 ad0 (pc + n) lv' st' h b) : am_W p l e R s m args below meth c Q D cl tc A nL n0 ad0 pc lv st h b := by
  obtain ⟨⟨hx, hb, hml, hown, hts⟩, hK, hA, hro⟩ := G
  intro ad H locs cells slots ls J hl hc hs
  have kk : ∀ lv' st', K lv' st' = some out → ∀ ls', lv_has ls' nL (lv'.map fun q => (q.1, am_t ad q.2)) → W p l e R s m args below meth c H locs cells slots Q (F0 m (pc + n) ls' (st'.map (am_t ad))) := fun lv' st' q ls' hl' => kk lv' st' q ad H locs cells slots ls' J hl' hc hs
  unfold am_s1 at h1
  split at h1
  · replace h1 := am_if h1
    obtain ⟨rfl, h1⟩ := h1
    exact lv_iconst hx hb hd rfl (kk _ _ h1 ls hl)
  · replace h1 := am_if h1
    obtain ⟨rfl, h1⟩ := h1
    exact lv_bipush hx hb hd rfl (kk _ _ h1 ls hl)
  · replace h1 := am_if h1
    obtain ⟨rfl, h1⟩ := h1
    exact lv_sipush hx hb hd rfl (kk _ _ h1 ls hl)
  · replace h1 := am_if h1
    obtain ⟨rfl, h1⟩ := h1
    unfold am_li at h1
    split at h1
    · rename_i hq
      exact lv_iload hx hb hd (am_lat hl hq) (kk _ _ h1 ls hl)
    · cases h1
  · replace h1 := am_if h1
    obtain ⟨rfl, h1⟩ := h1
    unfold am_li at h1
    split at h1
    · rename_i hq
      exact lv_iload_n hx hb hd rfl (am_lat hl hq) (kk _ _ h1 ls hl)
    · cases h1
  · replace h1 := am_if h1
    obtain ⟨rfl, h1⟩ := h1
    unfold am_la at h1
    split at h1
    · rename_i hq
      exact lv_aload hx hb hd (am_lat hl hq) (kk _ _ h1 ls hl)
    · rename_i hq
      exact lv_aload hx hb hd (am_lat hl hq) (kk _ _ h1 ls hl)
    · rename_i hq
      exact lv_aload hx hb hd (am_lat hl hq) (kk _ _ h1 ls hl)
    · cases h1
  · replace h1 := am_if h1
    obtain ⟨rfl, h1⟩ := h1
    unfold am_la at h1
    split at h1
    · rename_i hq
      exact lv_aload_n hx hb hd rfl (am_lat hl hq) (kk _ _ h1 ls hl)
    · rename_i hq
      exact lv_aload_n hx hb hd rfl (am_lat hl hq) (kk _ _ h1 ls hl)
    · rename_i hq
      exact lv_aload_n hx hb hd rfl (am_lat hl hq) (kk _ _ h1 ls hl)
    · cases h1
  · replace h1 := am_if h1
    obtain ⟨rfl, h1⟩ := h1
    unfold am_si at h1
    split at h1
    · obtain ⟨hk, h1⟩ := am_if h1
      exact lv_istore hx hb hd hl hk rfl (fun ls' hl' => kk _ _ h1 ls' (am_svh hl'))
    · cases h1
  · replace h1 := am_if h1
    obtain ⟨rfl, h1⟩ := h1
    unfold am_si at h1
    split at h1
    · obtain ⟨hk, h1⟩ := am_if h1
      exact lv_istore_n hx hb hd rfl hl hk rfl (fun ls' hl' => kk _ _ h1 ls' (am_svh hl'))
    · cases h1
  · replace h1 := am_if h1
    obtain ⟨rfl, h1⟩ := h1
    unfold am_sa at h1
    split at h1
    · obtain ⟨hk, h1⟩ := am_if h1
      exact lv_astore hx hb hd hl hk rfl (fun ls' hl' => kk _ _ h1 ls' (am_svh hl'))
    · obtain ⟨hk, h1⟩ := am_if h1
      exact lv_astore hx hb hd hl hk rfl (fun ls' hl' => kk _ _ h1 ls' (am_svh hl'))
    · obtain ⟨hk, h1⟩ := am_if h1
      exact lv_astore hx hb hd hl hk rfl (fun ls' hl' => kk _ _ h1 ls' (am_svh hl'))
    · cases h1
  · replace h1 := am_if h1
    obtain ⟨rfl, h1⟩ := h1
    unfold am_sa at h1
    split at h1
    · obtain ⟨hk, h1⟩ := am_if h1
      exact lv_astore_n hx hb hd rfl hl hk rfl (fun ls' hl' => kk _ _ h1 ls' (am_svh hl'))
    · obtain ⟨hk, h1⟩ := am_if h1
      exact lv_astore_n hx hb hd rfl hl hk rfl (fun ls' hl' => kk _ _ h1 ls' (am_svh hl'))
    · obtain ⟨hk, h1⟩ := am_if h1
      exact lv_astore_n hx hb hd rfl hl hk rfl (fun ls' hl' => kk _ _ h1 ls' (am_svh hl'))
    · cases h1
  · replace h1 := am_if h1
    obtain ⟨rfl, h1⟩ := h1
    unfold am_ic at h1
    split at h1
    · rename_i hq
      obtain ⟨hk, h1⟩ := am_if h1
      obtain ⟨k9, hk9⟩ := List.getElem?_of_mem (List.mem_map.mpr ⟨_, am_lk hq, rfl⟩ : _ ∈ lv.map fun q => (q.1, am_t ad q.2))
      exact lv_iinc hx hb hd hl hk9 rfl hk rfl (fun ls' hl' => kk _ _ h1 ls' (am_svh hl'))
    · cases h1
  · replace h1 := am_if h1
    obtain ⟨rfl, h1⟩ := h1
    unfold am_2 at h1
    split at h1
    · exact lv_iadd hx hb hd (kk _ _ h1 ls hl)
    · cases h1
  · replace h1 := am_if h1
    obtain ⟨rfl, h1⟩ := h1
    unfold am_2 at h1
    split at h1
    · exact lv_isub hx hb hd (kk _ _ h1 ls hl)
    · cases h1
  · replace h1 := am_if h1
    obtain ⟨rfl, h1⟩ := h1
    unfold am_2 at h1
    split at h1
    · exact lv_imul hx hb hd (kk _ _ h1 ls hl)
    · cases h1
  · replace h1 := am_if h1
    obtain ⟨rfl, h1⟩ := h1
    unfold am_2 at h1
    split at h1
    · exact lv_iand hx hb hd (kk _ _ h1 ls hl)
    · cases h1
  · replace h1 := am_if h1
    obtain ⟨rfl, h1⟩ := h1
    unfold am_2 at h1
    split at h1
    · exact lv_ior hx hb hd (kk _ _ h1 ls hl)
    · cases h1
  · replace h1 := am_if h1
    obtain ⟨rfl, h1⟩ := h1
    unfold am_2 at h1
    split at h1
    · exact lv_ixor hx hb hd (kk _ _ h1 ls hl)
    · cases h1
  · replace h1 := am_if h1
    obtain ⟨rfl, h1⟩ := h1
    unfold am_2z at h1
    split at h1
    · obtain ⟨hy, h1⟩ := am_ifn h1
      exact lv_idiv hx hb hd hy (kk _ _ h1 ls hl)
    · cases h1
  · replace h1 := am_if h1
    obtain ⟨rfl, h1⟩ := h1
    unfold am_2z at h1
    split at h1
    · obtain ⟨hy, h1⟩ := am_ifn h1
      exact lv_irem hx hb hd hy (kk _ _ h1 ls hl)
    · cases h1
  · replace h1 := am_if h1
    obtain ⟨rfl, h1⟩ := h1
    unfold am_du at h1
    split at h1
    · obtain ⟨hv, h1⟩ := am_if h1
      exact lv_dup hx hb hd (by rw [am_t_cat]; exact hv) (kk _ _ h1 ls hl)
    · cases h1
  · replace h1 := am_if h1
    obtain ⟨rfl, h1⟩ := h1
    unfold am_d2 at h1
    split at h1
    · obtain ⟨hv, h1⟩ := am_if h1
      obtain ⟨hw, h1⟩ := am_if h1
      exact lv_dup2_11 hx hb hd (by rw [am_t_cat]; exact hv) (by rw [am_t_cat]; exact hw) (kk _ _ h1 ls hl)
    · cases h1
  · replace h1 := am_if h1
    obtain ⟨rfl, h1⟩ := h1
    unfold am_dx at h1
    split at h1
    · obtain ⟨hv, h1⟩ := am_if h1
      obtain ⟨hw, h1⟩ := am_if h1
      exact lv_dup_x1 hx hb hd (by rw [am_t_cat]; exact hv) (by rw [am_t_cat]; exact hw) (kk _ _ h1 ls hl)
    · cases h1
  · replace h1 := am_if h1
    obtain ⟨rfl, h1⟩ := h1
    unfold am_po at h1
    split at h1
    · obtain ⟨hv, h1⟩ := am_if h1
      exact lv_pop hx hb hd (by rw [am_t_cat]; exact hv) (kk _ _ h1 ls hl)
    · cases h1
  · replace h1 := am_if h1
    obtain ⟨rfl, h1⟩ := h1
    unfold am_il at h1
    split at h1
    · exact lv_i2l hx hb hd rfl (kk _ _ h1 ls hl)
    · cases h1
  · replace h1 := am_if h1
    obtain ⟨rfl, h1⟩ := h1
    unfold am_lc at h1
    split at h1
    · exact W.lcmp hx hb hd (kk _ _ h1 ls hl)
    · cases h1
  · cases h1
theorem am_s2_ok (G : am_G p m c cc nL s args Ts own D cl tc A rs ad0) {i : Instr} {n pc : Nat} {lv : am_Lv} {st : List am_V} {h : am_H} {b : Nat × Nat} {K : am_K2} {out : am_O} (hd : decode cc pc = .ok (i, n)) (h1 : am_s2 rs i n st h K = some out) (kk : ∀ st' h', K st' h' = some out → am_W p l e R s m args below meth c Q D cl tc A nL n0 ad0 (pc + n) lv st' h' b) : am_W p l e R s m args below meth c Q D cl tc A nL n0 ad0 pc lv st h b := by
  obtain ⟨⟨hx, hb, hml, hown, hts⟩, hK, hA, hro⟩ := G
  intro ad H locs cells slots ls J hl hc hs
  have kk0 : ∀ st' h', K st' h' = some out → ∀ (H1 : Heap) (locs1 : List Loc), am_J D cl tc A s n0 ad0 ad h' H1 locs1 → W p l e R s m args below meth c H1 locs1 cells slots Q (F0 m (pc + n) ls (st'.map (am_t ad))) := fun st' h' q H1 locs1 J1 => kk st' h' q ad H1 locs1 cells slots ls J1 hl hc hs
  clear kk
  have hJ := J
  obtain ⟨j1, j2, j3, hP, hD, hS⟩ := J
  unfold am_s2 at h1
  split at h1
  · replace h1 := am_if h1
    obtain ⟨rfl, h1⟩ := h1
    unfold am_ld at h1
    split at h1
    · split at h1
      · rename_i hk
        replace h1 := am_if h1
        obtain ⟨rfl, h1⟩ := h1
        obtain ⟨hi, h1⟩ := am_bif h1
        obtain ⟨q0, hq⟩ := am_rd hJ hk 0 rfl
        exact va_iald hx hb hK hP q0 0 hq rfl (am_invp hi) hd (kk0 _ _ h1 H locs hJ)
      · cases h1
    · split at h1
      · rename_i hk
        obtain ⟨-, h1⟩ := am_if h1
        obtain ⟨hi, h1⟩ := am_bif h1
        simp only [Bool.and_eq_true, decide_eq_true_eq] at hi
        obtain ⟨q0, hq⟩ := am_rdR hJ hk hi.1
        exact va_iald hx hb hK hP q0 0 hq rfl (am_invp hi.2) hd (kk0 _ _ h1 H locs hJ)
      · cases h1
    · split at h1
      · rename_i hk
        obtain ⟨-, h1⟩ := am_if h1
        obtain ⟨hi, h1⟩ := am_bif h1
        have hT := hro _ _ _ hk
        rw [← j3] at hT
        exact va_ti hx hb hT hS (am_invp hi) rfl hd (kk0 _ _ h1 H locs hJ)
      · cases h1
    · cases h1
  · replace h1 := am_if h1
    obtain ⟨rfl, h1⟩ := h1
    unfold am_ld at h1
    split at h1
    · split at h1
      · rename_i hk
        replace h1 := am_if h1
        obtain ⟨rfl, h1⟩ := h1
        obtain ⟨hi, h1⟩ := am_bif h1
        obtain ⟨q0, hq⟩ := am_rd hJ hk 0 rfl
        exact va_zald hx hb hK hP q0 1 hq rfl (am_invp hi) hd (kk0 _ _ h1 H locs hJ)
      · cases h1
    · split at h1
      · obtain ⟨hz, -⟩ := am_if h1
        cases hz
      · cases h1
    · split at h1
      · obtain ⟨hz, -⟩ := am_if h1
        cases hz
      · cases h1
    · cases h1
  · replace h1 := am_if h1
    obtain ⟨rfl, h1⟩ := h1
    unfold am_sr at h1
    split at h1
    · split at h1
      · rename_i hk
        replace h1 := am_if h1
        obtain ⟨rfl, h1⟩ := h1
        obtain ⟨hi, h1⟩ := am_bif h1
        obtain ⟨q0, g1, g2⟩ := am_wrA hJ hk _
        exact va_iast hx hb hK hP hD hS q0 0 g1 rfl (am_invp hi) hd (fun H1 locs1 hP1 hD1 hS1 => kk0 _ _ h1 H1 locs1 (g2 H1 locs1 hP1 hD1 hS1))
      · cases h1
    · split at h1
      · rename_i hk
        obtain ⟨-, h1⟩ := am_if h1
        obtain ⟨hi, h1⟩ := am_bif h1
        simp only [Bool.and_eq_true, decide_eq_true_eq] at hi
        obtain ⟨q0, g1, g2⟩ := am_wrR hJ hk hi.1 _
        exact va_iast hx hb hK hP hD hS q0 0 g1 rfl (am_invp hi.2) hd (fun H1 locs1 hP1 hD1 hS1 => kk0 _ _ h1 H1 locs1 (g2 H1 locs1 hP1 hD1 hS1))
      · cases h1
    · cases h1
  · replace h1 := am_if h1
    obtain ⟨rfl, h1⟩ := h1
    unfold am_sr at h1
    split at h1
    · split at h1
      · rename_i hk
        replace h1 := am_if h1
        obtain ⟨rfl, h1⟩ := h1
        obtain ⟨hi, h1⟩ := am_bif h1
        obtain ⟨q0, g1, g2⟩ := am_wrA hJ hk _
        exact va_zast hx hb hK hP hD hS q0 1 g1 rfl (am_invp hi) hd (fun H1 locs1 hP1 hD1 hS1 => kk0 _ _ h1 H1 locs1 (g2 H1 locs1 hP1 hD1 hS1))
      · cases h1
    · split at h1
      · obtain ⟨hz, -⟩ := am_if h1
        cases hz
      · cases h1
    · cases h1
  · replace h1 := am_if h1
    obtain ⟨rfl, h1⟩ := h1
    unfold am_al at h1
    split at h1
    · split at h1
      · rename_i hk
        obtain ⟨ht, h1⟩ := am_if h1
        obtain ⟨q0, hq⟩ := am_rd hJ hk 0 rfl
        have ht2 := Nat.le_of_lt_succ ht
        rcases Nat.le_one_iff_eq_zero_or_eq_one.mp ht2 with rfl | rfl
        · exact va_alen hx hb hK hP q0 0 hq rfl rfl hd (kk0 _ _ h1 H locs hJ)
        · exact va_alen hx hb hK hP q0 1 hq rfl rfl hd (kk0 _ _ h1 H locs hJ)
      · rename_i hk
        obtain ⟨q0, hq⟩ := am_rd hJ hk 0 rfl
        exact va_alen hx hb hK hP q0 2 hq rfl rfl hd (kk0 _ _ h1 H locs hJ)
      · cases h1
    · split at h1
      · rename_i hk
        obtain ⟨hi, h1⟩ := am_bif h1
        simp only [decide_eq_true_eq] at hi
        obtain ⟨q0, hq⟩ := am_rdR hJ hk hi
        exact va_alen hx hb hK hP q0 0 hq rfl rfl hd (kk0 _ _ h1 H locs hJ)
      · cases h1
    · split at h1
      · rename_i hk
        have hT := hro _ _ _ hk
        rw [← j3] at hT
        exact va_tlen hx hb hT hS rfl hd (kk0 _ _ h1 H locs hJ)
      · cases h1
    · cases h1
  · replace h1 := am_if h1
    obtain ⟨rfl, h1⟩ := h1
    unfold am_aa at h1
    split at h1
    · split at h1
      · rename_i hk
        obtain ⟨hi, h1⟩ := am_bif h1
        obtain ⟨q0, hq⟩ := am_rd hJ hk 0 rfl
        have hlt : _ < _ := Nat.not_le.mp fun q => (am_invp hi) (Or.inr q)
        refine am_aald hx hb hK hP q0 2 hq rfl (am_invp hi) hd ?_
        rw [if_pos hlt]
        exact kk0 _ _ h1 H locs hJ
      · cases h1
    · cases h1
  · replace h1 := am_if h1
    obtain ⟨rfl, h1⟩ := h1
    unfold am_ll at h1
    split at h1
    · split at h1
      · rename_i hk
        obtain ⟨hi, h1⟩ := am_bif h1
        obtain ⟨q0, hq⟩ := am_rd hJ hk 0 rfl
        exact va_lald hx hb hK hP q0 3 hq rfl (am_invp hi) hd (kk0 _ _ h1 H locs hJ)
      · cases h1
    · cases h1
  · replace h1 := am_if h1
    obtain ⟨rfl, h1⟩ := h1
    unfold am_sl at h1
    split at h1
    · split at h1
      · rename_i hk
        obtain ⟨hi, h1⟩ := am_bif h1
        obtain ⟨q0, g1, g2⟩ := am_wrL hJ hk _
        exact va_last hx hb hK hP hD hS q0 3 g1 rfl (am_invp hi) hd (fun H1 locs1 hP1 hD1 hS1 => kk0 _ _ h1 H1 locs1 (g2 H1 locs1 hP1 hD1 hS1))
      · cases h1
    · cases h1
  · cases h1
end AMS
end
section
/-! jumps, ends, and the run as a whole -/
def am_chk (cc : ByteArray) : am_I → Bool
  | [] => true
  | x :: r => decide (decode cc x.1 = .ok x.2) && ((match r with
    | [] => true
    | y :: _ => y.1 == x.1 + x.2.2) && am_chk cc r)
theorem am_chk_hd {cc : ByteArray} {pc n : Nat} {i : Instr} {r : am_I} (h : am_chk cc ((pc, i, n) :: r) = true) : decode cc pc = .ok (i, n) := by
  simp only [am_chk, Bool.and_eq_true, decide_eq_true_eq] at h
  exact h.1
theorem am_chk_tl {cc : ByteArray} {x : Nat × Instr × Nat} {r : am_I} (h : am_chk cc (x :: r) = true) : am_chk cc r = true := by
  simp only [am_chk, Bool.and_eq_true] at h
  exact h.2.2
theorem am_chk_nx {cc : ByteArray} {x y : Nat × Instr × Nat} {r : am_I} (h : am_chk cc (x :: y :: r) = true) : y.1 = x.1 + x.2.2 := by
  simp only [am_chk, Bool.and_eq_true, beq_iff_eq] at h
  exact h.2.1
theorem am_chk_from {cc : ByteArray} (t : Nat) : ∀ {is : am_I}, am_chk cc is = true → am_chk cc (am_from t is) = true
  | [], h => h
  | x :: r, h => by
    unfold am_from
    rw [List.dropWhile_cons]
    split
    · exact am_chk_from t (am_chk_tl h)
    · exact h
theorem am_from_hd (t : Nat) : ∀ {is : am_I} {x : Nat × Instr × Nat} {r : am_I}, am_from t is = x :: r → x.1 = t
  | [], x, r, h => by cases h
  | y :: is, x, r, h => by
    unfold am_from at h
    rw [List.dropWhile_cons] at h
    split at h
    · exact am_from_hd t h
    · rename_i hy
      cases h
      simpa using hy
theorem am_tg_ok {pc : Nat} {off : Int} {K : Nat → Option am_O} {out : am_O} (h : am_tg pc off K = some out) : ∃ t : Nat, (pc : Int) + off = (t : Int) ∧ K t = some out := by
  unfold am_tg at h
  split at h
  · rename_i t ht
    exact ⟨t, ht, h⟩
  · cases h
theorem am_tsl_ok {x : Int32} {K : Int → Option am_O} {d : Int} {out : am_O} : ∀ {os : List Int} {v : Int}, am_tsl x K d v os = some out → (∃ (j : Nat) (o : Int), os[j]? = some o ∧ x.toInt = v + j ∧ K o = some out) ∨ ((∀ j : Nat, j < os.length → x.toInt ≠ v + j) ∧ K d = some out)
  | [], v, h => Or.inr ⟨fun j hj => absurd hj (Nat.not_lt_zero j), h⟩
  | o :: os, v, h => by
    unfold am_tsl at h
    by_cases hx : x.toInt = v
    · rw [decide_eq_true hx, cond_true] at h
      exact Or.inl ⟨0, o, rfl, by simp [hx], h⟩
    · rw [decide_eq_false hx, cond_false] at h
      rcases am_tsl_ok h with ⟨j, o', h1, h2, h3⟩ | ⟨h1, h2⟩
      · exact Or.inl ⟨j + 1, o', by simpa using h1, by rw [h2]; push_cast; omega, h3⟩
      · refine Or.inr ⟨fun j hj => ?_, h2⟩
        cases j with
        | zero => simpa using hx
        | succ j =>
          have := h1 j (by simpa using hj)
          intro q
          apply this
          rw [q]; push_cast; omega
theorem am_lsl_ok {x : Int32} {K : Int → Option am_O} {d : Int} {out : am_O} : ∀ {ps : List (Int × Int)}, am_lsl x K d ps = some out → K (Op.lookupswitch.offset ps d x.toInt) = some out
  | [], h => h
  | (v, o) :: os, h => by
    unfold am_lsl at h
    rw [Op.lookupswitch.offset_cons]
    by_cases hx : v = x.toInt
    · rw [decide_eq_true hx, cond_true] at h
      rw [if_pos hx]
      exact h
    · rw [decide_eq_false hx, cond_false] at h
      rw [if_neg hx]
      exact am_lsl_ok h
/-- the exceptions' classes by number -/
def am_xn (x : Nat) : String := match x with
  | 0 => "java/lang/IllegalArgumentException"
  | 1 => "java/util/NoSuchElementException"
  | 2 => "java/lang/UnsupportedOperationException"
  | 3 => "java/lang/IllegalStateException"
  | _ => "java/lang/IndexOutOfBoundsException"
theorem am_x4_lt (x : Nat) : am_x4 x < 5 := by
  unfold am_x4
  split <;> omega
theorem am_xn_x4 (x : Nat) : am_xn (am_x4 x) = am_xn x := by
  unfold am_x4
  split
  · rfl
  · rename_i h
    match x, h with
    | 0, h => exact absurd (by decide) h
    | 1, h => exact absurd (by decide) h
    | 2, h => exact absurd (by decide) h
    | 3, h => exact absurd (by decide) h
    | x + 4, _ => rfl
/-- what holds behind a method -/
def am_E (D : va_G) (cl : List vw_C) (tc : Nat → ClassId) (A : Nat → Prop) (n0 : Nat) (ad0 ad : am_A) (h : am_H) (t : State) : Prop := n0 ≤ h.length ∧ (∀ k, k < n0 → ad.1 k = ad0.1 k) ∧ ad.2 = ad0.2 ∧ va_P D cl (am_ws tc ad 0 h) t.heap ∧ va_D A (am_ws tc ad 0 h)
def am_Qc (D : va_G) (cl : List vw_C) (tc : Nat → ClassId) (A : Nat → Prop) (n0 : Nat) (ad0 : am_A) (out : am_O) : Array Value → State → Outcome → State → Prop := fun _ st o t => (∃ (v : Option am_V) (h : am_H) (ad : am_A), out = (.inl v, h) ∧ o = .returned (v.map (am_t ad)) ∧ am_E D cl tc A n0 ad0 ad h t) ∧ va_F A st t
def am_XC (D : va_G) (cl : List vw_C) (tc : Nat → ClassId) (A : Nat → Prop) (n0 : Nat) (ad0 : am_A) (out : am_O) : String → State → State → Prop := fun E st t => (∃ (x : Nat) (h : am_H) (ad : am_A), E = am_xn x ∧ out = (.inr x, h) ∧ am_E D cl tc A n0 ad0 ad h t) ∧ va_F A st t
def am_Q (below : List Frame) (args : Array Value) (s : State) (R : Room) (D : va_G) (cl : List vw_C) (tc : Nat → ClassId) (A : Nat → Prop) (n0 : Nat) (ad0 : am_A) (out : am_O) : State → Prop := vx_MQ below (am_Qc D cl tc A n0 ad0 out) (am_XC D cl tc A n0 ad0 out) args s R.cells R.slots A
section AMG
variable {p : Program} {l : Launch} {e : Env} {R : Room} {s : State} {m : MethodId} {args : Array Value} {below : List Frame} {meth : Method} {c : Code} {Q : State → Prop} {D : va_G} {cl : List vw_C} {tc : Nat → ClassId} {A : Nat → Prop} {nL n0 : Nat} {ad0 : am_A} {cc : ByteArray} {own : String} {Ts : List Cond} {rs : Nat → Option (Nat × (Nat → Int32))}
theorem am_br_ok (G : am_G p m c cc nL s args Ts own D cl tc A rs ad0) {i : Instr} {n pc : Nat} {lv : am_Lv} {st : List am_V} {h : am_H} {b : Nat × Nat} {K : List am_V → Nat → Option am_O} {N : List am_V → Option am_O} {out : am_O} (hd : decode cc pc = .ok (i, n)) (h1 : am_br pc i n st K N = some out) (kj : ∀ st' t, K st' t = some out → am_W p l e R s m args below meth c Q D cl tc A nL n0 ad0 t lv st' h b) (kn : ∀ st', N st' = some out → am_W p l e R s m args below meth c Q D cl tc A nL n0 ad0 (pc + n) lv st' h b) : am_W p l e R s m args below meth c Q D cl tc A nL n0 ad0 pc lv st h b := by
  obtain ⟨⟨hx, hb, hml, hown, hts⟩, hK, hA, hro⟩ := G
  intro ad H locs cells slots ls J hl hc hs
  have kj : ∀ st' t, K st' t = some out → W p l e R s m args below meth c H locs cells slots Q (F0 m t ls (st'.map (am_t ad))) := fun st' t q => kj st' t q ad H locs cells slots ls J hl hc hs
  have kn : ∀ st', N st' = some out → W p l e R s m args below meth c H locs cells slots Q (F0 m (pc + n) ls (st'.map (am_t ad))) := fun st' q => kn st' q ad H locs cells slots ls J hl hc hs
  unfold am_br at h1
  split at h1
  · replace h1 := am_if h1
    obtain ⟨rfl, h1⟩ := h1
    obtain ⟨t, ht, h1⟩ := am_tg_ok h1
    exact lv_goto hx hb hd ht (kj _ _ h1)
  · rename_i k off
    replace h1 := am_if h1
    obtain ⟨rfl, h1⟩ := h1
    split at h1
    · obtain ⟨t, ht, h1⟩ := am_tg_ok h1
      cases k with
      | eq => exact lv_icmp_eq hx hb hd ht (fun q => kj _ _ (by simpa [am_cmp, q] using h1)) (fun q => kn _ (by simpa [am_cmp, q] using h1))
      | ne => exact lv_icmp_ne hx hb hd ht (fun q => kj _ _ (by simpa [am_cmp, q] using h1)) (fun q => kn _ (by simpa [am_cmp, q] using h1))
      | lt => exact lv_icmp_lt hx hb hd ht (fun q => kj _ _ (by simpa [am_cmp, q] using h1)) (fun q => kn _ (by simpa [am_cmp, q] using h1))
      | ge => exact lv_icmp_ge hx hb hd ht (fun q => kj _ _ (by simpa [am_cmp, q] using h1)) (fun q => kn _ (by simpa [am_cmp, q] using h1))
      | gt => exact lv_icmp_gt hx hb hd ht (fun q => kj _ _ (by simpa [am_cmp, q] using h1)) (fun q => kn _ (by simpa [am_cmp, q] using h1))
      | le => exact lv_icmp_le hx hb hd ht (fun q => kj _ _ (by simpa [am_cmp, q] using h1)) (fun q => kn _ (by simpa [am_cmp, q] using h1))
    · cases h1
  · rename_i k off
    replace h1 := am_if h1
    obtain ⟨rfl, h1⟩ := h1
    split at h1
    · obtain ⟨t, ht, h1⟩ := am_tg_ok h1
      cases k with
      | eq => exact lv_if_eq hx hb hd ht (fun q => kj _ _ (by simpa [am_cmp, q] using h1)) (fun q => kn _ (by simpa [am_cmp, q] using h1))
      | ne => exact lv_if_ne hx hb hd ht (fun q => kj _ _ (by simpa [am_cmp, q] using h1)) (fun q => kn _ (by simpa [am_cmp, q] using h1))
      | lt => exact lv_if_lt hx hb hd ht (fun q => kj _ _ (by simpa [am_cmp, q] using h1)) (fun q => kn _ (by simpa [am_cmp, q] using h1))
      | ge => exact lv_if_ge hx hb hd ht (fun q => kj _ _ (by simpa [am_cmp, q] using h1)) (fun q => kn _ (by simpa [am_cmp, q] using h1))
      | gt => exact lv_if_gt hx hb hd ht (fun q => kj _ _ (by simpa [am_cmp, q] using h1)) (fun q => kn _ (by simpa [am_cmp, q] using h1))
      | le => exact lv_if_le hx hb hd ht (fun q => kj _ _ (by simpa [am_cmp, q] using h1)) (fun q => kn _ (by simpa [am_cmp, q] using h1))
    · cases h1
  · rename_i d lo hi offs
    split at h1
    · rename_i x r
      obtain ⟨hhi, h1⟩ := am_if h1
      rcases am_tsl_ok h1 with ⟨j, o, h2, h3, h4⟩ | ⟨h2, h3⟩
      · obtain ⟨t, ht, h4⟩ := am_tg_ok h4
        have hj := (List.getElem?_eq_some_iff.mp h2).1
        have hj2 : (x.toInt - lo).toNat = j := by omega
        exact lv_tableIn hx hb hd (by omega) (by omega) (by rw [hj2, ← Array.getElem?_toList]; exact h2) ht (kj _ _ h4)
      · obtain ⟨t, ht, h3⟩ := am_tg_ok h3
        refine lv_tableOut hx hb hd ?_ ht (kj _ _ h3)
        by_cases q1 : x.toInt < lo
        · exact Or.inl q1
        · refine Or.inr ?_
          have := h2 (x.toInt - lo).toNat
          by_cases q2 : hi < x.toInt
          · exact q2
          · exact absurd (show x.toInt = lo + ((x.toInt - lo).toNat : Int) by omega) (this (by omega))
    · cases h1
  · rename_i d ps
    split at h1
    · obtain ⟨hp, h1⟩ := am_if h1
      obtain ⟨t, ht, h1⟩ := am_tg_ok (am_lsl_ok h1)
      exact lv_lookup hx hb hd hp rfl ht (kj _ _ h1)
    · cases h1
  · cases h1
theorem am_re_ok (G : am_G p m c cc nL s args Ts own D cl tc A rs ad0) {rt : Option FieldType} (hrt : meth.sig.returnType = rt) (hlocks : meth.locks = false) {i : Instr} {n pc : Nat} {lv : am_Lv} {st : List am_V} {h : am_H} {b : Nat × Nat} {out : am_O} (hd : decode cc pc = .ok (i, n)) (h1 : am_re rt i n st h = some out) : am_W p l e R s m args below meth c (am_Q below args s R D cl tc A n0 ad0 out) D cl tc A nL n0 ad0 pc lv st h b := by
  obtain ⟨⟨hx, hb, hml, hown, hts⟩, hK, hA, hro⟩ := G
  intro ad H locs cells slots ls J hl hc hs
  obtain ⟨j1, j2, j3, hP, hD, hS⟩ := J
  unfold am_re at h1
  split at h1
  · replace h1 := am_if h1
    obtain ⟨rfl, h1⟩ := h1
    split at h1
    · rename_i x
      obtain ⟨hz, h1⟩ := am_bif h1
      cases h1
      refine vx_ret (W.widen (k := R.cells) (n := R.slots) (by omega) (by omega) ?_)
      have fin : ∀ ty, meth.sig.returnType = some ty → narrow ty (.int x) = .int x → W p l e R s m args below meth c H locs R.cells R.slots (MQ below (am_Qc D cl tc A n0 ad0 (.inl (some (.inl (.int x))), h)) args s R.cells R.slots A) (F0 m pc ls [.int x]) := fun ty hty hn =>
        W.zret hx hb hty hn (fun t ht _ => ⟨⟨some (.inl (.int x)), h, ad, rfl, rfl, j1, j2, j3, by rw [ht]; exact hP, hD⟩, hS.F ht⟩) hS.2.2 hd hlocks
      unfold am_rt at hz
      split at hz
      · exact fin .int hrt rfl
      · refine fin .boolean hrt ?_
        simp only [Bool.or_eq_true, decide_eq_true_eq] at hz
        rcases hz with rfl | rfl
        · decide +kernel
        · decide +kernel
      · cases hz
    · cases h1
  · replace h1 := am_if h1
    obtain ⟨rfl, h1⟩ := h1
    split at h1
    · replace h1 := am_if h1
      obtain ⟨rfl, h1⟩ := h1
      cases h1
      refine vx_ret (W.widen (k := R.cells) (n := R.slots) (by omega) (by omega) ?_)
      exact W.vret hx hb hrt (fun t ht _ => ⟨⟨none, h, ad, rfl, rfl, j1, j2, j3, by rw [ht]; exact hP, hD⟩, hS.F ht⟩) hS.2.2 hd hlocks
    · cases h1
  · cases h1
/-- the judgement with an exception, of the number x, thrown over the frame -/
def am_WX (p : Program) (l : Launch) (e : Env) (R : Room) (s : State) (m : MethodId) (args : Array Value) (below : List Frame) (meth : Method) (c : Code) (Q : State → Prop) (D : va_G) (cl : List vw_C) (tc : Nat → ClassId) (A : Nat → Prop) (nL n0 : Nat) (ad0 : am_A) (pc : Nat) (lv : am_Lv) (x : Nat) (h : am_H) (b : Nat × Nat) : Prop :=
  ∀ (ad : am_A) (H : Heap) (locs : List Loc) (cells slots : Nat) (ls : Array Slot) (rst : List Value) (q : Addr) (ce : Cell), am_J D cl tc A s n0 ad0 ad h H locs → lv_has ls nL (lv.map fun q => (q.1, am_t ad q.2)) → cells + b.1 ≤ R.cells → slots + b.2 ≤ R.slots → H[q]? = some ce → ce.vm = .none → s.vm.findClass (am_xn x) = some ce.cls → vx_W p l e R s m args below meth c H locs cells slots Q (F0 m pc ls rst) q
/-- an entry of the pool: what it does here is what the run says -/
def am_op (p : Program) (l : Launch) (e : Env) (R : Room) (s : State) (m : MethodId) (args : Array Value) (below : List Frame) (meth : Method) (c : Code) (D : va_G) (cl : List vw_C) (tc : Nat → ClassId) (A : Nat → Prop) (nL n0 : Nat) (ad0 : am_A) (cc : ByteArray) (key : Nat × Nat) (φ : am_F) : Prop :=
  ∀ (out : am_O) (pc n : Nat) (i : Instr) (is : am_I) (lv : am_Lv) (st : List am_V) (h : am_H) (b : Nat × Nat) (K : am_K3) (KX : am_KX), am_key i = key → am_chk cc ((pc, i, n) :: is) = true → φ ((pc, i, n) :: is) lv st h b K KX = some out →
    (∀ st' h' b', K st' h' b' = some out → am_W p l e R s m args below meth c (am_Q below args s R D cl tc A n0 ad0 out) D cl tc A nL n0 ad0 (pc + n) lv st' h' b') →
    (∀ x h' b', KX x h' b' = some out → am_WX p l e R s m args below meth c (am_Q below args s R D cl tc A n0 ad0 out) D cl tc A nL n0 ad0 pc lv x h' b') → am_W p l e R s m args below meth c (am_Q below args s R D cl tc A n0 ad0 out) D cl tc A nL n0 ad0 pc lv st h b
/-- the table of a method's handlers -/
def am_tb (hs : am_Hs) : List (Nat × Nat × Nat × Nat) := hs.map (fun q => (q.1, q.2.1, q.2.2.1, q.2.2.2.1))
/-- what the tables say of the handlers' classes -/
def am_hk (s : State) (args : Array Value) (own : String) (hs : am_Hs) : Prop := ∀ q ∈ hs, q.2.2.2.1 ≠ 0 ∧ (Cond.classLink own q.2.2.2.1 (am_xn q.2.2.2.2)).before args s = true ∧ (Cond.castable (am_xn q.2.2.2.2) (am_xn q.2.2.2.2)).before args s = true ∧ ∀ x, x < 5 → x ≠ q.2.2.2.2 → va_Nc (am_xn x) (am_xn q.2.2.2.2) s
theorem am_fh_none {pc x : Nat} : ∀ {hs : am_Hs}, am_fh hs pc x = none → ∀ q ∈ hs, (¬ q.1 ≤ pc ∨ ¬ pc < q.2.1) ∨ am_x4 x ≠ q.2.2.2.2
  | [], _ => fun q hq => by cases hq
  | (a, z, t, k, y) :: r, h => by
    unfold am_fh at h
    intro q hq
    by_cases h1 : a ≤ pc
    · rw [if_pos h1] at h
      by_cases h2 : pc < z
      · rw [if_pos h2] at h
        by_cases h3 : am_x4 x = y
        · rw [if_pos h3] at h; cases h
        · rw [if_neg h3] at h
          rcases List.mem_cons.mp hq with rfl | hq
          · exact Or.inr h3
          · exact am_fh_none h q hq
      · rw [if_neg h2] at h
        rcases List.mem_cons.mp hq with rfl | hq
        · exact Or.inl (Or.inr h2)
        · exact am_fh_none h q hq
    · rw [if_neg h1] at h
      rcases List.mem_cons.mp hq with rfl | hq
      · exact Or.inl (Or.inl h1)
      · exact am_fh_none h q hq
theorem am_fh_some {pc x t : Nat} : ∀ {hs : am_Hs}, am_fh hs pc x = some t → ∃ pre q suf, hs = pre ++ q :: suf ∧ (∀ z ∈ pre, (¬ z.1 ≤ pc ∨ ¬ pc < z.2.1) ∨ am_x4 x ≠ z.2.2.2.2) ∧ q.1 ≤ pc ∧ pc < q.2.1 ∧ q.2.2.1 = t ∧ q.2.2.2.2 = am_x4 x
  | [], h => by cases h
  | (a, z, t', k, y) :: r, h => by
    unfold am_fh at h
    have rc0 : am_fh r pc x = some t → ((¬ a ≤ pc ∨ ¬ pc < z) ∨ am_x4 x ≠ y) → ∃ pre q suf, (a, z, t', k, y) :: r = pre ++ q :: suf ∧ (∀ z ∈ pre, (¬ z.1 ≤ pc ∨ ¬ pc < z.2.1) ∨ am_x4 x ≠ z.2.2.2.2) ∧ q.1 ≤ pc ∧ pc < q.2.1 ∧ q.2.2.1 = t ∧ q.2.2.2.2 = am_x4 x := by
      intro h9 hp
      obtain ⟨pre, q, suf, e1, e2, e3⟩ := am_fh_some h9
      refine ⟨(a, z, t', k, y) :: pre, q, suf, by rw [e1]; rfl, ?_, e3⟩
      intro w hw
      rcases List.mem_cons.mp hw with rfl | hw
      · exact hp
      · exact e2 w hw
    by_cases h1 : a ≤ pc
    · rw [if_pos h1] at h
      by_cases h2 : pc < z
      · rw [if_pos h2] at h
        by_cases h3 : am_x4 x = y
        · rw [if_pos h3] at h
          cases h
          exact ⟨[], _, r, rfl, (fun w hw => by cases hw), h1, h2, rfl, h3.symm⟩
        · rw [if_neg h3] at h
          exact rc0 h (Or.inr h3)
      · rw [if_neg h2] at h
        exact rc0 h (Or.inl (Or.inr h2))
    · rw [if_neg h1] at h
      exact rc0 h (Or.inl (Or.inl h1))
theorem am_rmm (ad : am_A) (lv : am_Lv) (i : Nat) : (am_rm lv i).map (fun q => (q.1, am_t ad q.2)) = (lv.map fun q => (q.1, am_t ad q.2)).filter (fun q => !(q.1 == i) && !(q.1 + 1 == i && q.2.category == 2)) := by
  simp only [am_rm, List.filter_map, Function.comp_def, am_t_cat]
theorem am_fewer {pc : Nat} {lv lv' : am_Lv} {st : List am_V} {h : am_H} {b : Nat × Nat} (hsub : ∀ q ∈ lv', q ∈ lv) (k : am_W p l e R s m args below meth c Q D cl tc A nL n0 ad0 pc lv' st h b) : am_W p l e R s m args below meth c Q D cl tc A nL n0 ad0 pc lv st h b :=
  fun ad H locs cells slots ls J hl hc hs => k ad H locs cells slots ls J ⟨hl.1, hl.2.1, fun q hq => by
    obtain ⟨w, hw, rfl⟩ := List.mem_map.mp hq
    exact hl.2.2 _ (List.mem_map.mpr ⟨w, hsub w hw, rfl⟩)⟩ hc hs
theorem am_go_ok (G : am_G p m c cc nL s args Ts own D cl tc A rs ad0) {rt : Option FieldType} (hrt : meth.sig.returnType = rt) (hlocks : meth.locks = false) {hs : am_Hs} {kp : am_Kp} (htb : c.exceptionTable.toList = tableOf (am_tb hs)) (hhk : am_hk s args own hs) {X : am_X} (hX : ∀ key φ, X.lookup key = some φ → am_op p l e R s m args below meth c D cl tc A nL n0 ad0 cc key φ) {jmp : am_Kj} {out : am_O} (hj : ∀ t lv st h b, jmp t lv st h b = some out → am_W p l e R s m args below meth c (am_Q below args s R D cl tc A n0 ad0 out) D cl tc A nL n0 ad0 t lv st h b) :
    ∀ (f : Nat) (is : am_I) (lv : am_Lv) (st : List am_V) (h : am_H) (b : Nat × Nat) (pc : Nat), am_chk cc is = true → (∀ x r, is = x :: r → x.1 = pc) → am_go X nL rt rs hs kp jmp f is lv st h b = some out → am_W p l e R s m args below meth c (am_Q below args s R D cl tc A n0 ad0 out) D cl tc A nL n0 ad0 pc lv st h b := by
  intro f
  induction f with
  | zero => intro is lv st h b pc _ _ h1; simp [am_go] at h1
  | succ f ih =>
    intro is lv st h b pc hch hpc h1
    cases is with
    | nil => simp [am_go] at h1
    | cons x is =>
      obtain ⟨pc0, i, n⟩ := x
      have e0 : pc0 = pc := hpc _ _ rfl
      subst e0
      have hd := am_chk_hd hch
      have nx : ∀ x r, is = x :: r → x.1 = pc0 + n := fun x r hr => by subst hr; exact am_chk_nx hch
      have htl := am_chk_tl hch
      unfold am_go at h1
      split at h1
      · exact am_fewer (am_kp_sub (kp := kp) (pc := pc0)) (am_s1_ok G hd h1 (fun lv' st' q => ih is lv' st' h b _ htl nx q))
      · exact am_fewer (am_kp_sub (kp := kp) (pc := pc0)) (am_s2_ok G hd h1 (fun st' h' q => ih is _ st' h' b _ htl nx q))
      · refine am_br_ok G hd h1 (fun st' t q => ?_) (fun st' q => ih is lv st' h b _ htl nx q)
        split at q
        · exact am_fewer am_kp_sub (hj _ _ _ _ _ q)
        · exact ih _ _ _ _ _ _ (am_chk_from t htl) (fun x r hr => am_from_hd t hr) q
      · exact am_re_ok G hrt hlocks hd h1
      · split at h1
        · rename_i φ hφ
          refine hX _ _ hφ out pc0 n i is lv st h b _ _ rfl hch h1 (fun st' h' b' q => ih is lv st' h' b' _ htl nx q) (fun x h' b' q => ?_)
          have hN : ∀ z ∈ hs, ((¬ z.1 ≤ pc0 ∨ ¬ pc0 < z.2.1) ∨ am_x4 x ≠ z.2.2.2.2) → covers ⟨z.1, z.2.1, z.2.2.1, z.2.2.2.1⟩ pc0 = false ∨ (z.2.2.2.1 ≠ 0 ∧ ∃ nm : String, (Cond.classLink own z.2.2.2.1 nm).before args s = true ∧ va_Nc (am_xn x) nm s) := by
            intro z hz h9
            obtain ⟨g1, g2, g3, g4⟩ := hhk z hz
            rcases h9 with h9 | h9
            · refine Or.inl ?_
              simp only [covers, Bool.and_eq_false_iff, decide_eq_false_iff_not]
              omega
            · exact Or.inr ⟨g1, _, g2, am_xn_x4 x ▸ g4 (am_x4 x) (am_x4_lt x) h9⟩
          obtain ⟨⟨hx, hb, hml, hown, hts⟩, hK, hA, hro⟩ := G
          intro ad H locs cells slots ls rst qa ce J hl hc hs1 hce hcv hcl
          split at q
          · rename_i hf
            cases q
            obtain ⟨j1, j2, j3, hP, hD, hS⟩ := J
            exact vx_outP (E := am_xn x) hown hlocks (fun z hz => by
              rw [htb] at hz
              obtain ⟨z1, hz1, rfl⟩ := List.mem_map.mp hz
              obtain ⟨z2, hz2, rfl⟩ := List.mem_map.mp hz1
              exact hN z2 hz2 (am_fh_none hf z2 hz2)) hce hcv hcl (fun t ht _ => ⟨⟨x, h', ad, rfl, rfl, j1, j2, j3, by rw [ht]; exact hP, hD⟩, hS.F ht⟩) hS.2.2 (by omega) (by omega)
          · rename_i t hf
            obtain ⟨pre, z, suf, e1, e2, e3, e4, e5, e6⟩ := am_fh_some hf
            have hzin : z ∈ hs := by rw [e1]; exact List.mem_append_right _ List.mem_cons_self
            obtain ⟨g1, g2, g3, g4⟩ := hhk z hzin
            subst e5
            rw [e6, am_xn_x4] at g2 g3
            refine vx_catch (own := own) (name := am_xn x) (E := am_xn x) hown ((pre.map (fun q => (q.1, q.2.1, q.2.2.1, q.2.2.2.1))).map fun q => ⟨q.1, q.2.1, q.2.2.1, q.2.2.2⟩) ⟨z.1, z.2.1, z.2.2.1, z.2.2.2.1⟩ ((suf.map (fun q => (q.1, q.2.1, q.2.2.1, q.2.2.2.1))).map fun q => ⟨q.1, q.2.1, q.2.2.1, q.2.2.2⟩) (by rw [htb, e1]; simp [am_tb, tableOf]) (fun w hw => by
              obtain ⟨z1, hz1, rfl⟩ := List.mem_map.mp hw
              obtain ⟨z2, hz2, rfl⟩ := List.mem_map.mp hz1
              exact hN z2 (by rw [e1]; exact List.mem_append_left _ hz2) (e2 z2 hz2)) (by simp only [covers, Bool.and_eq_true, decide_eq_true_eq]; exact ⟨e3, e4⟩) g1 g2 g3 hce hcv hcl ?_
            have hfr := am_chk_from (cc := cc) z.2.2.1 htl
            have hhd : ∀ x r, am_from z.2.2.1 is = x :: r → x.1 = z.2.2.1 := fun x r hr => am_from_hd _ hr
            split at q
            · rename_i pc9 k n9 is' hq9
              rw [hq9] at hfr hhd
              replace q := am_if q
              obtain ⟨rfl, q⟩ := q
              obtain ⟨hk9, q⟩ := am_if q
              have e9 : pc9 = z.2.2.1 := hhd _ _ rfl
              subst e9
              refine lv_astore hx hb (am_chk_hd hfr) hl hk9 rfl (fun ls' hl' => ?_)
              exact ih is' (am_rm lv k) [] h' b' _ (am_chk_tl hfr) (fun x r hr => by subst hr; exact am_chk_nx hfr) q ad H locs cells slots ls' J (by rw [am_rmm]; exact ⟨hl'.1, hl'.2.1, fun w hw => hl'.2.2 w (List.mem_cons_of_mem _ hw)⟩) hc hs1
            · rename_i pc9 k n9 is' hq9
              rw [hq9] at hfr hhd
              replace q := am_if q
              obtain ⟨rfl, q⟩ := q
              obtain ⟨hk9, q⟩ := am_if q
              have e9 : pc9 = z.2.2.1 := hhd _ _ rfl
              subst e9
              refine lv_astore_n hx hb (am_chk_hd hfr) rfl hl hk9 rfl (fun ls' hl' => ?_)
              exact ih is' (am_rm lv k.val) [] h' b' _ (am_chk_tl hfr) (fun x r hr => by subst hr; exact am_chk_nx hfr) q ad H locs cells slots ls' J (by rw [am_rmm]; exact ⟨hl'.1, hl'.2.1, fun w hw => hl'.2.2 w (List.mem_cons_of_mem _ hw)⟩) hc hs1
            · cases q
        · cases h1
theorem am_lp_ok (G : am_G p m c cc nL s args Ts own D cl tc A rs ad0) {rt : Option FieldType} (hrt : meth.sig.returnType = rt) (hlocks : meth.locks = false) {hs : am_Hs} {kp : am_Kp} (htb : c.exceptionTable.toList = tableOf (am_tb hs)) (hhk : am_hk s args own hs) {T : am_I} (hT : am_chk cc T = true) {X : am_X} (hX : ∀ key φ, X.lookup key = some φ → am_op p l e R s m args below meth c D cl tc A nL n0 ad0 cc key φ) {out : am_O} :
    ∀ (N t : Nat) (lv : am_Lv) (st : List am_V) (h : am_H) (b : Nat × Nat), am_lp T X nL rt rs hs kp N t lv st h b = some out → am_W p l e R s m args below meth c (am_Q below args s R D cl tc A n0 ad0 out) D cl tc A nL n0 ad0 t lv st h b := by
  intro N
  induction N with
  | zero => intro t lv st h b h1; cases h1
  | succ N ih =>
    intro t lv st h b h1
    exact am_go_ok G hrt hlocks htb hhk hX (fun t lv st h b q => ih t lv st h b q) 1000 (am_from t T) lv st h b t (am_chk_from t hT) (fun x r hr => am_from_hd t hr) h1
end AMG
end
section
/-! calls: a callee's contract is the run of its own code -/
def am_clV (h : am_H) : am_V → Bool
  | .inl (.ref k) => (h[k]?).isSome
  | .inr q => (h[q.1]?).isSome
  | _ => true
theorem am_some_lt {h : am_H} {k : Nat} (hs : (h[k]?).isSome = true) : k < h.length := by
  rw [Option.isSome_iff_exists] at hs
  obtain ⟨x, hx⟩ := hs
  exact (List.getElem?_eq_some_iff.mp hx).1
theorem am_cl_t {h : am_H} {ad ad' : am_A} {v : am_V} (hc : am_clV h v = true) (h1 : ∀ k, k < h.length → ad'.1 k = ad.1 k) (h2 : ad'.2 = ad.2) : am_t ad' v = am_t ad v := by
  cases v with
  | inl v =>
    cases v with
    | ref k =>
      show Value.ref (ad'.1 k none) = Value.ref (ad.1 k none)
      rw [h1 k (am_some_lt hc)]
    | retAddr j =>
      show Value.ref (ad'.2 j) = Value.ref (ad.2 j)
      rw [h2]
    | _ => rfl
  | inr q =>
    show Value.ref (ad'.1 q.1 (some q.2)) = Value.ref (ad.1 q.1 (some q.2))
    rw [h1 q.1 (am_some_lt hc)]
theorem am_cl_L {h : am_H} {ad ad' : am_A} {vs : List am_V} (hc : vs.all (am_clV h) = true) (h1 : ∀ k, k < h.length → ad'.1 k = ad.1 k) (h2 : ad'.2 = ad.2) : vs.map (am_t ad') = vs.map (am_t ad) := by
  apply List.map_congr_left
  intro v hv
  exact am_cl_t (List.all_eq_true.mp hc v hv) h1 h2
theorem am_cl_lv {h : am_H} {ad ad' : am_A} {lv : am_Lv} (hc : lv.all (fun q => am_clV h q.2) = true) (h1 : ∀ k, k < h.length → ad'.1 k = ad.1 k) (h2 : ad'.2 = ad.2) : (lv.map fun q => (q.1, am_t ad' q.2)) = lv.map fun q => (q.1, am_t ad q.2) := by
  apply List.map_congr_left
  intro v hv
  rw [am_cl_t (List.all_eq_true.mp hc v hv) h1 h2]
/-- words that go with the tables, though not by 'goodWord' -/
def am_wk (w : Cond) : Bool := match w with
  | .castable _ _ => true
  | .fieldLinkNest _ _ _ _ _ _ => true
  | .declares _ => true
  | _ => false
theorem am_cast_moved {a b : String} {u U : State} (hvm : u.vm.Alike U.vm) (h : va_Nw (.castable a b) u) : va_Nw (.castable a b) U := by
  obtain ⟨c3, c4, hc3, hc4, hasg⟩ := Cond.castable_spec h
  have h1 : U.vm.findClass a = some c3 := by rw [hvm.findClass]; exact hc3
  have h2 : U.vm.findClass b = some c4 := by rw [hvm.findClass]; exact hc4
  have h3 : U.vm.assignable c3 c4 = true := by rw [hvm.assignable]; exact hasg
  simp [va_Nw, Cond.before, Cond.holds, Cond.value, h1, h2, h3]
theorem am_wk_warm {w : Cond} (hw : am_wk w = true) {s U : State} (hW : s.WarmedH U.vm) (h : va_Nw w s) : va_Nw w U := by
  unfold am_wk at hw
  split at hw
  · exact am_cast_moved hW.alike h
  · exact va_Nw.warmF hW h
  · exact va_Nw.warmD hW h
  · cases hw
theorem am_wk_same {w : Cond} (hw : am_wk w = true) {s U : State} (hW : s.vm = U.vm) (h : va_Nw w s) : va_Nw w U := by
  unfold am_wk at hw
  split at hw
  · exact va_Nw.same rfl hW h
  · exact va_Nw.same rfl hW h
  · exact va_Nw.same rfl hW h
  · cases hw
theorem am_wk_tab {w : Cond} (hw : am_wk w = true) : w.onTables = true := by
  unfold am_wk at hw
  split at hw
  · rfl
  · rfl
  · rfl
  · cases hw
abbrev am_Zt : Type := List (String × String × String × Nat) × List Cond
/-- statics: the constant arrays' own fields, and Throwable's two; the exceptions' classes are apart; words that go along -/
def am_zs (zs : am_Zt) (ra : Nat → Nat) (A : Nat → Prop) (U : State) (H : Heap) : Prop := (∀ x y, x < 5 → y < 5 → x ≠ y → va_Nc (am_xn x) (am_xn y) U) ∧ va_AOA .int U ∧ (∀ w ∈ zs.2, am_wk w = true ∧ va_Nw w U) ∧ (∀ q ∈ zs.1, va_Z q.1 q.2.1 q.2.2.1 (.ref (ra q.2.2.2)) A U H) ∧ vx_Zq Bundle.tN "UNASSIGNED_STACK" Bundle.steD A U H ∧ vx_Zq Bundle.tN "SUPPRESSED_SENTINEL" Bundle.listD A U H
theorem am_zs.go {zs : am_Zt} {ra : Nat → Nat} {A B : Nat → Prop} {u U : State} {H H1 : Heap} (h : am_zs zs ra A u H) (hW : u.WarmedH U.vm) (hq : ∀ a : Nat, a < H.size → ¬ A a → H1[a]? = H[a]?) (hAB : ∀ q, B q → A q) : am_zs zs ra B U H1 :=
  have hvm := hW.alike
  ⟨fun x y h1 h2 h3 => (h.1 x y h1 h2 h3).moved hvm, over_moved (a := #[]) (a' := #[]) hvm h.2.1, fun w hw => ⟨(h.2.2.1 w hw).1, am_wk_warm (h.2.2.1 w hw).1 hW (h.2.2.1 w hw).2⟩, fun q hq1 => (((h.2.2.2.1 q hq1).moved hvm).kept hq).narrow hAB, ((h.2.2.2.2.1.moved hvm).kept hq).narrow hAB, ((h.2.2.2.2.2.moved hvm).kept hq).narrow hAB⟩
theorem am_zs.same {zs : am_Zt} {ra : Nat → Nat} {A : Nat → Prop} {u U : State} {H : Heap} (h : am_zs zs ra A u H) (hvm0 : u.vm = U.vm) (hvm : u.vm.Alike U.vm) : am_zs zs ra A U H :=
  ⟨fun x y h1 h2 h3 => (h.1 x y h1 h2 h3).moved hvm, over_moved (a := #[]) (a' := #[]) hvm h.2.1, fun w hw => ⟨(h.2.2.1 w hw).1, am_wk_same (h.2.2.1 w hw).1 hvm0 (h.2.2.1 w hw).2⟩, fun q hq1 => (h.2.2.2.1 q hq1).moved hvm, h.2.2.2.2.1.moved hvm, h.2.2.2.2.2.moved hvm⟩
theorem am_ro.go {rs : Nat → Option (Nat × (Nat → Int32))} {ra : Nat → Nat} {A B : Nat → Prop} {u U : State} {H H1 : Heap} (h : am_ro rs ra A u H) (hvm : u.vm.Alike U.vm) (hq : ∀ a : Nat, a < H.size → ¬ A a → H1[a]? = H[a]?) (hAB : ∀ q, B q → A q) : am_ro rs ra B U H1 :=
  fun j n f hj => (((h j n f hj).moved hvm).kept hq).narrow hAB
/-- a contract's start -/
def am_Pc (D : va_G) (cl : List vw_C) (tc : Nat → ClassId) (rs : Nat → Option (Nat × (Nat → Int32))) (zs : am_Zt) (ad : am_A) (as : List am_V) (h : am_H) (sz : Nat) : Array Value → State → Prop :=
  va_Pc (as.map (am_t ad)) (fun U => U.heap.size = sz ∧ va_P D cl (am_ws tc ad 0 h) U.heap ∧ va_K D cl (am_tys tc) U ∧ va_D (fun _ => True) (am_ws tc ad 0 h) ∧ am_ro rs ad.2 (va_A (am_ws tc ad 0 h) sz) U U.heap ∧ am_zs zs ad.2 (va_A (am_ws tc ad 0 h) sz) U U.heap)
def am_M (cl : List vw_C) (rs : Nat → Option (Nat × (Nat → Int32))) (zs : am_Zt) (l : Launch) (y : MethodName) (ws : List Cond) (rm : Room) (F : List am_V → am_H → Option am_O) : Prop :=
  ∀ (D : va_G) (tc : Nat → ClassId) (ad : am_A) (as : List am_V) (h : am_H) (sz : Nat) (out : am_O), F as h = some out → vx_Met l y ws rm (am_Pc D cl tc rs zs ad as h sz) (am_Qc D cl tc (va_A (am_ws tc ad 0 h) sz) h.length ad out) (am_XC D cl tc (va_A (am_ws tc ad 0 h) sz) h.length ad out) rm.cells rm.slots (va_A (am_ws tc ad 0 h) sz)
theorem am_blind {D : va_G} {cl : List vw_C} {tc : Nat → ClassId} {rs : Nat → Option (Nat × (Nat → Int32))} {zs : am_Zt} {ad : am_A} {as : List am_V} {h : am_H} {sz : Nat} : FrameBlind (am_Pc D cl tc rs zs ad as h sz) := by
  intro a U g mk q
  obtain ⟨q0, q1, q2, q3, q4, q5, q6⟩ := q
  have hA : U.vm.Alike (U.calling g mk a).vm := Vm.Alike.refl U.vm
  exact ⟨q0, q1, q2, va_K.moved hA q3, q4, q5.go hA (fun _ _ _ => rfl) (fun _ h => h), q6.same rfl hA⟩
/-- what a method's body stands on -/
def am_Cx (p : Program) (l : Launch) (R : Room) (s : State) (m : MethodId) (args : Array Value) (meth : Method) (c : Code) (cc : ByteArray) (nL : Nat) (Ts : List Cond) (own : String) (D : va_G) (cl : List vw_C) (tc : Nat → ClassId) (A : Nat → Prop) (rs : Nat → Option (Nat × (Nat → Int32))) (zs : am_Zt) (hs : am_Hs) (ad0 : am_A) : Prop :=
  am_G p m c cc nL s args Ts own D cl tc A rs ad0 ∧ am_zs zs ad0.2 A s s.heap ∧ meth.locks = false ∧ c.exceptionTable.toList = tableOf (am_tb hs) ∧ l.stackTraces = false
section AMC
variable {p : Program} {l : Launch} {e : Env} {R : Room} {s : State} {m : MethodId} {args : Array Value} {below : List Frame} {meth : Method} {c : Code} {D : va_G} {cl : List vw_C} {tc : Nat → ClassId} {A : Nat → Prop} {nL n0 : Nat} {ad0 : am_A} {cc : ByteArray} {own : String} {Ts : List Cond} {rs : Nat → Option (Nat × (Nat → Int32))} {zs : am_Zt} {hs : am_Hs}
theorem am_J.sub {ad : am_A} {h : am_H} {H : Heap} {locs : List Loc} (hA : ∀ q, s.heap.size ≤ q → A q) (J : am_J D cl tc A s n0 ad0 ad h H locs) : ∀ q, va_A (am_ws tc ad 0 h) H.size q → A q := by
  obtain ⟨-, -, -, -, hD, hS⟩ := J
  intro q hq
  rcases hq with ⟨k, e, hk⟩ | hq
  · exact hD.2 k _ hk
  · exact hA q (Nat.le_trans hS.1 hq)
theorem am_pre (C : am_Cx p l R s m args meth c cc nL Ts own D cl tc A rs zs hs ad0) {ad : am_A} {h : am_H} {H : Heap} {locs : List Loc} (J : am_J D cl tc A s n0 ad0 ad h H locs) (as : List am_V) {U : State} (hU : U.heap = H) (hW : s.WarmedH U.vm) : am_Pc D cl tc rs zs ad as h H.size (as.map (am_t ad)).toArray U := by
  obtain ⟨⟨_, hK, hA, hro⟩, hz, -⟩ := C
  have hsub := am_J.sub hA J
  obtain ⟨j1, j2, j3, hP, hD, hS⟩ := J
  subst hU
  rw [← j3] at hro hz
  exact ⟨rfl, rfl, hP, va_K.moved hW.alike hK, hD.weaken (fun _ _ _ _ => trivial), hro.go hW.alike hS.2.1 hsub, hz.go hW hS.2.1 hsub⟩
/-- the receiver is an object of that class -/
def am_rcv (rk : Option Nat) (as : List am_V) (h : am_H) : Bool := match rk with
  | none => true
  | some ci => match as with
    | .inl (.ref k) :: _ => (match h[k]? with
      | some (.inr (.inr (.inl (ci', _)))) => ci' == ci
      | _ => false)
    | _ => false
/-- a call that stands: what the callee's run says comes back -/
def am_rn (p : Program) (l : Launch) (e : Env) (R : Room) (s : State) (m : MethodId) (args : Array Value) (below : List Frame) (meth : Method) (c : Code) (D : va_G) (cl : List vw_C) (tc : Nat → ClassId) (A : Nat → Prop) (nL n0 : Nat) (ad0 : am_A) (cc : ByteArray) (key : Nat × Nat) (rk : Option Nat) (n : Nat) (F : List am_V → am_H → Option am_O) (mc ms : Nat) : Prop :=
  ∀ (pc : Nat) (i : Instr) (ad : am_A) (h : am_H) (H : Heap) (locs : List Loc) (cells slots : Nat) (ls : Array Slot) (as rest : List am_V) (o1 : am_O), am_key i = key → decode cc pc = .ok (i, 3) → am_J D cl tc A s n0 ad0 ad h H locs → ls.size = nL → am_rcv rk as h = true → as.length = n → ((rest.map (am_t ad)).map fun v => v.category).sum ≤ 8 → F as h = some o1 → cells + mc ≤ R.cells → slots + ms ≤ R.slots →
    vx_Run p l e R s m args below meth c H locs cells slots mc ms (F0 m pc ls ((as.reverse ++ rest).map (am_t ad))) (rest.map (am_t ad)) (am_Qc D cl tc (va_A (am_ws tc ad 0 h) H.size) h.length ad o1 (as.map (am_t ad)).toArray) (am_XC D cl tc (va_A (am_ws tc ad 0 h) H.size) h.length ad o1) (va_A (am_ws tc ad 0 h) H.size)
theorem am_cont (C : am_Cx p l R s m args meth c cc nL Ts own D cl tc A rs zs hs ad0) {ad : am_A} {h : am_H} {H : Heap} {locs : List Loc} (J : am_J D cl tc A s n0 ad0 ad h H locs) {lv : am_Lv} {ls : Array Slot} (hl : lv_has ls nL (lv.map fun q => (q.1, am_t ad q.2))) {b : Nat × Nat} {cells slots mc ms pc : Nat} (hc : cells + b.1 ≤ R.cells) (hs : slots + b.2 ≤ R.slots) (h1 : mc ≤ b.1) (h2 : ms ≤ b.2) {rest : List am_V} {st0 : List Value} (c1 : lv.all (fun q => am_clV h q.2) = true) (c2 : rest.all (am_clV h) = true) {o1 out : am_O} {qa : Array Value}
    (hr : vx_Run p l e R s m args below meth c H locs cells slots mc ms (F0 m pc ls st0) (rest.map (am_t ad)) (am_Qc D cl tc (va_A (am_ws tc ad 0 h) H.size) h.length ad o1 qa) (am_XC D cl tc (va_A (am_ws tc ad 0 h) H.size) h.length ad o1) (va_A (am_ws tc ad 0 h) H.size))
    (kv : ∀ v h', o1 = (.inl v, h') → am_W p l e R s m args below meth c (am_Q below args s R D cl tc A n0 ad0 out) D cl tc A nL n0 ad0 (pc + 3) lv (v.toList ++ rest) h' (b.1 - mc, b.2 - ms)) (kx : ∀ x h', o1 = (.inr x, h') → am_WX p l e R s m args below meth c (am_Q below args s R D cl tc A n0 ad0 out) D cl tc A nL n0 ad0 pc lv x h' (b.1 - mc, b.2 - ms)) :
    W p l e R s m args below meth c H locs cells slots (am_Q below args s R D cl tc A n0 ad0 out) (F0 m pc ls st0) := by
  obtain ⟨⟨_, hK, hA, hro⟩, -⟩ := C
  have hsub := am_J.sub hA J
  obtain ⟨j1, j2, j3, hP, hD, hS⟩ := J
  intro T hT X
  rcases hr T hT X with ⟨v, st₀, t, T', L, h0, X', hL, e1, e2, ⟨⟨v', h', ad', ho, hv, E1, E2, E3, E4, E5⟩, hF⟩, st⟩ | ⟨q, st₀, t, T', L, EX, ce, h0, X', hL, e1, e2, ⟨⟨x, h', ad', rfl, ho, E1, E2, E3, E4, E5⟩, hF⟩, hce, hcv, hcl', st⟩
  · have hvv : v = v'.map (am_t ad') := Outcome.returned.inj hv
    subst hvv
    obtain ⟨k1, k2, k3⟩ := vx_keep h0 e1 hS (fun q _ h => hsub q h) hsub hL hF
    have J' : am_J D cl tc A s n0 ad0 ad' h' T'.heap (locs ++ L) := ⟨Nat.le_trans j1 E1, fun k hk => (E2 k (Nat.lt_of_lt_of_le hk j1)).trans (j2 k hk), E3.trans j3, by rw [e1]; exact E4, E5.weaken (fun _ q _ hq => hsub q.1 hq), k3⟩
    obtain ⟨t2, a1, b1⟩ := kv v' h' ho ad' T'.heap (locs ++ L) (cells + mc) (slots + ms) ls J' (by rw [am_cl_lv c1 E2 E3]; exact hl) (by show cells + mc + (b.1 - mc) ≤ _; omega) (by show slots + ms + (b.2 - ms) ≤ _; omega) T' rfl X'
    refine ⟨t2, st t2 ?_, b1⟩
    rw [List.map_append, am_cl_L c2 E2 E3] at a1
    cases v' with
    | none => exact a1
    | some v' => exact a1
  · obtain ⟨k1, k2, k3⟩ := vx_keep h0 e1 hS (fun q _ h => hsub q h) hsub hL hF
    have J' : am_J D cl tc A s n0 ad0 ad' h' T'.heap (locs ++ L) := ⟨Nat.le_trans j1 E1, fun k hk => (E2 k (Nat.lt_of_lt_of_le hk j1)).trans (j2 k hk), E3.trans j3, by rw [e1]; exact E4, E5.weaken (fun _ q _ hq => hsub q.1 hq), k3⟩
    obtain ⟨t2, a1, b1⟩ := kx x h' ho ad' T'.heap (locs ++ L) (cells + mc) (slots + ms) ls (rest.map (am_t ad)) q ce J' (by rw [am_cl_lv c1 E2 E3]; exact hl) (by show cells + mc + (b.1 - mc) ≤ _; omega) (by show slots + ms + (b.2 - ms) ≤ _; omega) (by rw [e1]; exact hce) hcv hcl' T' rfl X'
    exact ⟨t2, st.trans a1, b1⟩
def am_n : am_I → Nat
  | (_, _, n) :: _ => n
  | [] => 0
/-- what comes behind a call -/
def am_ri (o : Option am_O) (K : Int32 → am_H → Option am_O) (KX : Nat → am_H → Option am_O) : Option am_O := match o with
  | some (.inl (some (.inl (.int x))), h') => K x h'
  | some (.inr x, h') => KX x h'
  | _ => none
def am_rv (o : Option am_O) (K : am_H → Option am_O) (KX : Nat → am_H → Option am_O) : Option am_O := match o with
  | some (.inl none, h') => K h'
  | some (.inr x, h') => KX x h'
  | _ => none
/-- a call whose answer is an int -/
def am_fci (rk : Option Nat) (n : Nat) (F : List am_V → am_H → Option am_O) (mc ms : Nat) : am_F := fun is lv st h b K KX =>
  if am_n is = 3 then (if am_rcv rk (st.take n).reverse h = true then (if (st.take n).length = n then (if ((st.drop n).map am_cat).sum ≤ 8 then (if (lv.all (fun q => am_clV h q.2) && (st.drop n).all (am_clV h)) = true then (if mc ≤ b.1 then (if ms ≤ b.2 then (am_ri (F (st.take n).reverse h) (fun x h' => K (.inl (.int x) :: st.drop n) h' (b.1 - mc, b.2 - ms)) (fun x h' => KX x h' (b.1 - mc, b.2 - ms))) else none) else none) else none) else none) else none) else none) else none
/-- a call without an answer -/
def am_fcv (rk : Option Nat) (n : Nat) (F : List am_V → am_H → Option am_O) (mc ms : Nat) : am_F := fun is lv st h b K KX =>
  if am_n is = 3 then (if am_rcv rk (st.take n).reverse h = true then (if (st.take n).length = n then (if ((st.drop n).map am_cat).sum ≤ 8 then (if (lv.all (fun q => am_clV h q.2) && (st.drop n).all (am_clV h)) = true then (if mc ≤ b.1 then (if ms ≤ b.2 then (am_rv (F (st.take n).reverse h) (fun h' => K (st.drop n) h' (b.1 - mc, b.2 - ms)) (fun x h' => KX x h' (b.1 - mc, b.2 - ms))) else none) else none) else none) else none) else none) else none) else none
theorem am_catsum (ad : am_A) (st : List am_V) : ((st.map (am_t ad)).map fun v => v.category) = st.map am_cat := by
  rw [List.map_map]
  apply List.map_congr_left
  intro v _
  exact am_t_cat ad v
theorem am_fci_ok (C : am_Cx p l R s m args meth c cc nL Ts own D cl tc A rs zs hs ad0) {key : Nat × Nat} {rk : Option Nat} {n mc ms : Nat} {F : List am_V → am_H → Option am_O} (hr : am_rn p l e R s m args below meth c D cl tc A nL n0 ad0 cc key rk n F mc ms) : am_op p l e R s m args below meth c D cl tc A nL n0 ad0 cc key (am_fci rk n F mc ms) := by
  intro out pc n3 i is lv st h b K KX hkey hch h1 kk kx ad H locs cells slots ls J hl hc hs
  unfold am_fci at h1
  replace h1 := am_if h1
  obtain ⟨a0, h1⟩ := h1
  have a0 : n3 = 3 := a0
  subst a0
  obtain ⟨a9, h1⟩ := am_if h1
  obtain ⟨a1, h1⟩ := am_if h1
  obtain ⟨a2, h1⟩ := am_if h1
  obtain ⟨a3, h1⟩ := am_if h1
  obtain ⟨a4, h1⟩ := am_if h1
  obtain ⟨a5, h1⟩ := am_if h1
  simp only [Bool.and_eq_true] at a3
  cases hF : F (st.take n).reverse h with
  | none => rw [hF] at h1; cases h1
  | some o1 =>
    rw [hF] at h1
    have run := hr pc i ad h H locs cells slots ls (st.take n).reverse (st.drop n) o1 hkey (am_chk_hd hch) J hl.1 a9 (by rw [List.length_reverse]; exact a1) (by rw [am_catsum]; exact a2) hF (by omega) (by omega)
    rw [List.reverse_reverse, List.take_append_drop] at run
    refine am_cont C J hl hc hs a4 a5 a3.1 a3.2 run (fun v h' ho => ?_) (fun X h' ho => ?_)
    · subst ho
      unfold am_ri at h1
      split at h1
      · rename_i x h9 q9
        cases q9
        exact kk _ _ _ h1
      · rename_i q9
        cases q9
      · cases h1
    · subst ho
      exact kx _ _ _ h1
theorem am_fcv_ok (C : am_Cx p l R s m args meth c cc nL Ts own D cl tc A rs zs hs ad0) {key : Nat × Nat} {rk : Option Nat} {n mc ms : Nat} {F : List am_V → am_H → Option am_O} (hr : am_rn p l e R s m args below meth c D cl tc A nL n0 ad0 cc key rk n F mc ms) : am_op p l e R s m args below meth c D cl tc A nL n0 ad0 cc key (am_fcv rk n F mc ms) := by
  intro out pc n3 i is lv st h b K KX hkey hch h1 kk kx ad H locs cells slots ls J hl hc hs
  unfold am_fcv at h1
  replace h1 := am_if h1
  obtain ⟨a0, h1⟩ := h1
  have a0 : n3 = 3 := a0
  subst a0
  obtain ⟨a9, h1⟩ := am_if h1
  obtain ⟨a1, h1⟩ := am_if h1
  obtain ⟨a2, h1⟩ := am_if h1
  obtain ⟨a3, h1⟩ := am_if h1
  obtain ⟨a4, h1⟩ := am_if h1
  obtain ⟨a5, h1⟩ := am_if h1
  simp only [Bool.and_eq_true] at a3
  cases hF : F (st.take n).reverse h with
  | none => rw [hF] at h1; cases h1
  | some o1 =>
    rw [hF] at h1
    have run := hr pc i ad h H locs cells slots ls (st.take n).reverse (st.drop n) o1 hkey (am_chk_hd hch) J hl.1 a9 (by rw [List.length_reverse]; exact a1) (by rw [am_catsum]; exact a2) hF (by omega) (by omega)
    rw [List.reverse_reverse, List.take_append_drop] at run
    refine am_cont C J hl hc hs a4 a5 a3.1 a3.2 run (fun v h' ho => ?_) (fun X h' ho => ?_)
    · subst ho
      unfold am_rv at h1
      split at h1
      · rename_i h9 q9
        cases q9
        exact kk _ _ _ h1
      · rename_i q9
        cases q9
      · cases h1
    · subst ho
      exact kx _ _ _ h1
theorem am_key2 {i : Instr} {k : Nat} (h : am_key i = (2, k)) : i = .invokestatic k := by
  unfold am_key at h
  split at h <;> simp_all
theorem am_key3 {i : Instr} {k : Nat} (h : am_key i = (3, k)) : i = .invokevirtual k := by
  unfold am_key at h
  split at h <;> simp_all
theorem am_key4 {i : Instr} {k : Nat} (h : am_key i = (4, k)) : i = .invokespecial k := by
  unfold am_key at h
  split at h <;> simp_all
end AMC
end
section
/-! fields -/
theorem am_key0 {i : Instr} {k : Nat} (h : am_key i = (0, k)) : i = .getfield k := by
  unfold am_key at h
  split at h <;> simp_all
theorem am_key1 {i : Instr} {k : Nat} (h : am_key i = (1, k)) : i = .putfield k := by
  unfold am_key at h
  split at h <;> simp_all
theorem am_key5 {i : Instr} {k : Nat} (h : am_key i = (5, k)) : i = .new k := by
  unfold am_key at h
  split at h <;> simp_all
theorem am_key6 {i : Instr} {k : Nat} (h : am_key i = (6, k)) : i = .getstatic k := by
  unfold am_key at h
  split at h <;> simp_all
def am_fget (ci j : Nat) : am_F := fun is _ st h b K _ => if am_n is = 3 then (match st with
  | .inl (.ref k) :: r => (match h[k]? with
    | some (.inr (.inr (.inl (ci', fs)))) => if ci' = ci then (match fs[j]? with
      | some v => K (v :: r) h b
      | none => none) else none
    | _ => none)
  | _ => none) else none
/-- 0: an int, 1: a cell -/
def am_fok : Nat → am_V → Bool
  | 0, .inl (.int _) => true
  | 1, .inl (.ref _) => true
  | _, _ => false
def am_fput (ci j q : Nat) : am_F := fun is _ st h b K _ => if am_n is = 3 then (match st with
  | v :: .inl (.ref k) :: r => (match h[k]? with
    | some (.inr (.inr (.inl (ci', fs)))) => if ci' = ci then (if j < fs.length then (if am_fok q v = true then K r (h.set k (.inr (.inr (.inl (ci', fs.set j v))))) b else none) else none) else none
    | _ => none)
  | _ => none) else none
section AMF
variable {p : Program} {l : Launch} {e : Env} {R : Room} {s : State} {m : MethodId} {args : Array Value} {below : List Frame} {meth : Method} {c : Code} {D : va_G} {cl : List vw_C} {tc : Nat → ClassId} {A : Nat → Prop} {nL n0 : Nat} {ad0 : am_A} {cc : ByteArray} {own : String} {Ts : List Cond} {rs : Nat → Option (Nat × (Nat → Int32))} {zs : am_Zt} {hs : am_Hs}
theorem am_fget_ok (C : am_Cx p l R s m args meth c cc nL Ts own D cl tc A rs zs hs ad0) {idx ci j N : Nat} {T : u_T} {Cn : String} (hc : cl[ci]? = some (Cn, T, N)) (hin : ∀ w ∈ u_ws Cn T N, w ∈ Ts) (hj : j < N) (hlink : Cond.fieldLink own idx (T j).1 (T j).2.1 (T j).2.2.1 ∈ Ts) : am_op p l e R s m args below meth c D cl tc A nL n0 ad0 cc (0, idx) (am_fget ci j) := by
  intro out pc n3 i is lv st h b K KX hkey hch h1 kk kx ad H locs cells slots ls J hl hc' hs
  have hi := am_key0 hkey
  subst hi
  obtain ⟨⟨⟨hx, hb, hml, hown, hts⟩, hK, hA, hro⟩, -⟩ := C
  have hlk := hts _ hlink
  unfold am_fget at h1
  replace h1 := am_if h1
  obtain ⟨a0, h1⟩ := h1
  have a0 : n3 = 3 := a0
  subst a0
  split at h1
  · split at h1
    · rename_i hk
      replace h1 := am_if h1
      obtain ⟨rfl, h1⟩ := h1
      split at h1
      · rename_i v hv
        obtain ⟨q0, hq⟩ := am_rd J hk 0 rfl
        exact va_get (D := D) hx hb hts hin hown hK J.2.2.2.1 q0 hq hc j hj hlk (fun _ h9 => h9) (v := am_t ad v) (by rw [List.getElem?_map, hv]; rfl) (am_chk_hd hch) (kk _ _ _ h1 ad H locs cells slots ls J hl hc' hs)
      · cases h1
    · cases h1
  · cases h1
/-- a nest mate's field -/
theorem am_fgetN_ok (C : am_Cx p l R s m args meth c cc nL Ts own D cl tc A rs zs hs ad0) {idx ci j N : Nat} {T : u_T} {Cn host : String} (hc : cl[ci]? = some (Cn, T, N)) (hin : ∀ w ∈ u_ws Cn T N, w ∈ Ts) (hj : j < N) (hlink : Cond.fieldLinkNest own idx (T j).1 (T j).2.1 (T j).2.2.1 host ∈ zs.2) : am_op p l e R s m args below meth c D cl tc A nL n0 ad0 cc (0, idx) (am_fget ci j) := by
  intro out pc n3 i is lv st h b K KX hkey hch h1 kk kx ad H locs cells slots ls J hl hc' hs
  have hi := am_key0 hkey
  subst hi
  obtain ⟨⟨⟨hx, hb, hml, hown, hts⟩, hK, hA, hro⟩, hz, -⟩ := C
  have hlk := va_Nw.use rfl (A := args) (hz.2.2.1 _ hlink).2
  unfold am_fget at h1
  replace h1 := am_if h1
  obtain ⟨a0, h1⟩ := h1
  have a0 : n3 = 3 := a0
  subst a0
  split at h1
  · split at h1
    · rename_i hk
      replace h1 := am_if h1
      obtain ⟨rfl, h1⟩ := h1
      split at h1
      · rename_i v hv
        obtain ⟨q0, hq⟩ := am_rd J hk 0 rfl
        exact va_getN (D := D) hx hb hts hin hown hK J.2.2.2.1 q0 hq hc j hj hlk (fun _ h9 => h9) (v := am_t ad v) (by rw [List.getElem?_map, hv]; rfl) (am_chk_hd hch) (kk _ _ _ h1 ad H locs cells slots ls J hl hc' hs)
      · cases h1
    · cases h1
  · cases h1
theorem am_fok_n {q : Nat} {v : am_V} {ad : am_A} {ty : FieldType} (hq : am_fok q v = true) (h0 : q = 0 → ty = .int) (h1 : q = 1 → (∃ C, ty = .object C) ∨ ∃ t, ty = .array t) : narrow ty (am_t ad v) = am_t ad v ∧ fits ty (am_t ad v) = true := by
  unfold am_fok at hq
  split at hq
  · rw [h0 rfl]
    exact ⟨rfl, rfl⟩
  · rcases h1 rfl with ⟨C, rfl⟩ | ⟨t, rfl⟩
    · exact ⟨rfl, rfl⟩
    · exact ⟨rfl, rfl⟩
  · cases hq
theorem am_fput_ok (C : am_Cx p l R s m args meth c cc nL Ts own D cl tc A rs zs hs ad0) {idx ci j q N : Nat} {T : u_T} {Cn : String} (ty0 : Nat → FieldType) (hty : ∀ k, k < N → parseFieldDescriptor (T k).2.2.1 = some (ty0 k)) (hnm : ∀ a, a < N → ∀ b, b < N → a ≠ b → (T a).2.1 ≠ (T b).2.1) (hc : cl[ci]? = some (Cn, T, N)) (hin : ∀ w ∈ u_ws Cn T N, w ∈ Ts) (hj : j < N) (hlink : Cond.fieldLink own idx (T j).1 (T j).2.1 (T j).2.2.1 ∈ Ts) (hf : (T j).2.2.2 = false ∨ ((T j).2.2.2 = true ∧ meth.name = "<init>" ∧ (T j).1 = own)) (h0 : q = 0 → ty0 j = .int) (h1 : q = 1 → (∃ C, ty0 j = .object C) ∨ ∃ t, ty0 j = .array t) : am_op p l e R s m args below meth c D cl tc A nL n0 ad0 cc (1, idx) (am_fput ci j q) := by
  intro out pc n3 i is lv st h b K KX hkey hch g1 kk kx ad H locs cells slots ls J hl hc' hs
  have hi := am_key1 hkey
  subst hi
  obtain ⟨⟨⟨hx, hb, hml, hown, hts⟩, hK, hA, hro⟩, -⟩ := C
  unfold am_fput at g1
  replace g1 := am_if g1
  obtain ⟨a0, g1⟩ := g1
  have a0 : n3 = 3 := a0
  subst a0
  split at g1
  · rename_i v k r
    split at g1
    · rename_i ci9 fs9 hk
      replace g1 := am_if g1
      obtain ⟨rfl, g1⟩ := g1
      obtain ⟨hlt, g1⟩ := am_if g1
      obtain ⟨hq, g1⟩ := am_if g1
      obtain ⟨n1, n2⟩ := am_fok_n (ad := ad) hq h0 h1
      obtain ⟨q0, g2, g3⟩ := am_wrO J hk (fs9.set j v)
      simp only [List.map_set] at g3
      obtain ⟨-, -, -, hP, hD, hS⟩ := J
      rcases hf with hf | ⟨hf, hm, ho⟩
      · exact va_put (D := D) hx hb hts hin ty0 hty hnm hown hK hP hD hS q0 g2 hc j hj (hts _ hlink) (fun _ h9 => h9) hf (hty j hj) n1 n2 (by rw [List.length_map]; exact hlt) (am_chk_hd hch) (fun H1 locs1 hP1 hD1 hS1 => kk _ _ _ g1 ad H1 locs1 cells slots ls (g3 H1 locs1 hP1 hD1 hS1) hl hc' hs)
      · exact va_putF (D := D) hx hb hts hin ty0 hty hnm hown hK hP hD hS q0 g2 hc j hj (hts _ hlink) (fun _ h9 => h9) hf hm ho (hty j hj) n1 n2 (by rw [List.length_map]; exact hlt) (am_chk_hd hch) (fun H1 locs1 hP1 hD1 hS1 => kk _ _ _ g1 ad H1 locs1 cells slots ls (g3 H1 locs1 hP1 hD1 hS1) hl hc' hs)
    · cases g1
  · cases g1
/-- a static that holds a constant array -/
def am_fgs (j : Nat) : am_F := fun is _ st h b K _ => if am_n is = 3 then K (.inl (.retAddr j) :: st) h b else none
theorem am_fgs_ok (C : am_Cx p l R s m args meth c cc nL Ts own D cl tc A rs zs hs ad0) {idx j : Nat} {Cn n d : String} (hz : (Cn, n, d, j) ∈ zs.1) (hlink : Cond.fieldLink own idx Cn n d ∈ Ts) : am_op p l e R s m args below meth c D cl tc A nL n0 ad0 cc (6, idx) (am_fgs j) := by
  intro out pc n3 i is lv st h b K KX hkey hch h1 kk kx ad H locs cells slots ls J hl hc' hs
  have hi := am_key6 hkey
  subst hi
  obtain ⟨⟨⟨hx, hb, hml, hown, hts⟩, hK, hA, hro⟩, hzs, -⟩ := C
  unfold am_fgs at h1
  replace h1 := am_if h1
  obtain ⟨a0, h1⟩ := h1
  have a0 : n3 = 3 := a0
  subst a0
  have hZ := hzs.2.2.2.1 _ hz
  rw [← J.2.2.1] at hZ
  exact va_gets hx hb hZ J.2.2.2.2.2 hown (hts _ hlink) (fun _ h9 => h9) (am_chk_hd hch) (kk _ _ _ h1 ad H locs cells slots ls J hl hc' hs)
/-- 'throw new E()' -/
def am_fthr (x ic : Nat) : am_F := fun is _ st h b _ _ => match is with
  | (_, _, n0) :: (_, .dup, n1) :: (_, .invokespecial k, n2) :: (_, .athrow, n3) :: _ => if k = ic then (if n0 = 3 then (if n1 = 1 then (if n2 = 3 then (if n3 = 1 then (if 1 ≤ b.1 then (if 6 ≤ b.2 then (if (st.map am_cat).sum ≤ 8 then some (.inr x, h) else none) else none) else none) else none) else none) else none) else none) else none
  | _ => none
abbrev am_sup : List String := ["java/lang/RuntimeException", "java/lang/Exception"]
theorem am_fthr_ok (C : am_Cx p l R s m args meth c cc nL Ts own D cl tc A rs zs [] ad0) {ik ic x : Nat} (hcls : Bundle.fit (am_xn x) = true) (hk : Cond.classLink own ik (am_xn x) ∈ Ts) (hini : Cond.initialized (am_xn x) ∈ Ts) (hat : ∀ w ∈ vx_at0 own ic (am_xn x) am_sup, w ∈ Ts ∨ w ∈ zs.2) (hgood : ∀ w ∈ Cond.classLink own ik (am_xn x) :: Cond.initialized (am_xn x) :: vx_at0 own ic (am_xn x) am_sup, vx_ot w = true) (hR : 5 < R.frames ∧ 89 ≤ R.locals) : am_op p l e R s m args below meth c D cl tc A nL n0 ad0 cc (5, ik) (am_fthr x ic) := by
  intro out pc n3 i is lv st h b K KX hkey hch h1 kk kx ad H locs cells slots ls J hl hc' hs'
  have hi := am_key5 hkey
  subst hi
  obtain ⟨⟨⟨hx, hb, hml, hown, hts⟩, hK, hA, hro⟩, hzs, hlocks, htb, hst⟩ := C
  unfold am_fthr at h1
  split at h1
  · rename_i q0 q1 m0 p1 m1 p2 k m2 p3 m3 is9 e9
    replace h1 := am_if h1
    obtain ⟨rfl, h1⟩ := h1
    replace h1 := am_if h1
    obtain ⟨rfl, h1⟩ := h1
    replace h1 := am_if h1
    obtain ⟨rfl, h1⟩ := h1
    replace h1 := am_if h1
    obtain ⟨rfl, h1⟩ := h1
    replace h1 := am_if h1
    obtain ⟨rfl, h1⟩ := h1
    obtain ⟨hb1, h1⟩ := am_if h1
    obtain ⟨hb2, h1⟩ := am_if h1
    obtain ⟨hsm, h1⟩ := am_if h1
    cases h1
    cases e9
    have t1 := am_chk_tl hch
    have t2 := am_chk_tl t1
    have t3 := am_chk_tl t2
    have u1 : p1 = pc + 3 := am_chk_nx hch
    have u2 : p2 = p1 + 1 := am_chk_nx t1
    have u3 : p3 = p2 + 3 := am_chk_nx t2
    subst u1
    subst u2
    subst u3
    obtain ⟨j1, j2, j3, hP, hD, hS⟩ := J
    exact vx_throw0 (A := A) (names := am_sup) (mc := R.cells) (ms := R.slots) hx hb hst hown hcls (by decide +kernel) (hts _ hk) (hts _ hini) (fun w hw => by
      rcases hat w hw with h9 | h9
      · exact hts w h9
      · exact va_Nw.use (am_wk_tab (hzs.2.2.1 w h9).1) (hzs.2.2.1 w h9).2) hgood hzs.2.2.2.2.1 hzs.2.2.2.2.2 hS (hl.1.trans hml.symm) (am_chk_hd hch) (am_chk_hd t1) (am_chk_hd t2) (am_chk_hd t3) (fun z hz => by rw [htb] at hz; cases hz) (by show 2 + 3 < _; omega) (by rw [am_catsum]; show _ + (13 * 3 + 42) ≤ _; omega) (by omega) (by omega) hlocks
      (fun t hvm hsz hq => ⟨⟨x, h, ad, rfl, rfl, j1, j2, j3, hP.kept (fun k q hk => hq q.1 (hP k q hk).lt), hD⟩, Nat.le_trans hS.1 hsz, fun q h1 h2 => (hq q (Nat.lt_of_lt_of_le h1 hS.1)).trans (hS.2.1 q h1 h2)⟩) hS.2.2 (by omega) (by omega)
  · cases h1
end AMF
end
section
/-! how a call stands: static, virtual, a constructor's, of a method with handlers -/
section AMN
variable {p : Program} {l : Launch} {e : Env} {R : Room} {s : State} {m : MethodId} {args : Array Value} {below : List Frame} {meth : Method} {c : Code} {D : va_G} {cl : List vw_C} {tc : Nat → ClassId} {A : Nat → Prop} {nL n0 : Nat} {ad0 : am_A} {cc : ByteArray} {own : String} {Ts : List Cond} {rs : Nat → Option (Nat × (Nat → Int32))} {zs : am_Zt} {hs : am_Hs}
variable {y : MethodName} {ws ws' : List Cond} {rm : Room} {F : List am_V → am_H → Option am_O} {bytes : ByteArray} {maxL idx n : Nat} {ret : Option FieldType}
theorem am_stk (ad : am_A) (as rest : List am_V) : (as.reverse ++ rest).map (am_t ad) = (as.map (am_t ad)).reverse ++ rest.map (am_t ad) := by
  rw [List.map_append, List.map_reverse]
theorem am_rn_S (C : am_Cx p l R s m args meth c cc nL Ts own D cl tc A rs zs hs ad0) (hM : am_M cl rs zs l y ws rm F) (hw : ws = Cond.code y bytes maxL ret :: ws') (hG : GoodIn Ts ws) (hlink : Cond.methodLink own idx y ∈ Ts) (hst : Cond.static y ∈ Ts) (hini : Cond.initialized y.cls ∈ Ts)
    (hd : y.cls ≠ "java/lang/invoke/MethodHandle" ∧ y.cls ≠ "java/lang/invoke/VarHandle" ∧ (parseMethodDescriptor y.desc).map (fun d => d.parameters.length) = some n) (hR : rm.frames + 1 ≤ R.frames ∧ 8 + (maxL + 11) + rm.locals ≤ R.locals) : am_rn p l e R s m args below meth c D cl tc A nL n0 ad0 cc (2, idx) none n F rm.cells rm.slots := by
  intro pc i ad h H locs cells slots ls as rest o1 hkey hdg J hsz _ hn hW hF hc hs'
  have hi := am_key2 hkey
  subst hi
  have S := C.1.1
  have hts := S.2.2.2.2
  exact vx_runS (As := as.map (am_t ad)) S (hM D tc ad as h H.size o1 hF) ⟨callB_of n hts hG hw rfl rfl (hts _ hini) (hts _ hlink) hd hR, hts _ hst⟩ ⟨am_blind, fun U hU hW => am_pre C J as hU hW⟩ rfl (by rw [List.length_map]; exact hn) hsz (am_stk ad as rest) (lv_room hW) hdg ⟨hc, hs'⟩
theorem am_rn_SX {hh : List (Nat × Nat × Nat × Nat)} (C : am_Cx p l R s m args meth c cc nL Ts own D cl tc A rs zs hs ad0) (hM : am_M cl rs zs l y ws rm F) (hw : ws = Cond.codeWith y bytes maxL ret hh :: ws') (hG : GoodIn Ts ws) (hlink : Cond.methodLink own idx y ∈ Ts) (hst : Cond.static y ∈ Ts) (hini : Cond.initialized y.cls ∈ Ts)
    (hd : y.cls ≠ "java/lang/invoke/MethodHandle" ∧ y.cls ≠ "java/lang/invoke/VarHandle" ∧ (parseMethodDescriptor y.desc).map (fun d => d.parameters.length) = some n) (hR : rm.frames + 1 ≤ R.frames ∧ 8 + (maxL + 11) + rm.locals ≤ R.locals) : am_rn p l e R s m args below meth c D cl tc A nL n0 ad0 cc (2, idx) none n F rm.cells rm.slots := by
  intro pc i ad h H locs cells slots ls as rest o1 hkey hdg J hsz _ hn hW hF hc hs'
  have hi := am_key2 hkey
  subst hi
  have S := C.1.1
  have hts := S.2.2.2.2
  have hcm : Cond.codeWith y bytes maxL ret hh ∈ ws := by rw [hw]; exact List.mem_cons_self
  exact vx_runSX (As := as.map (am_t ad)) S (hM D tc ad as h H.size o1 hF) ⟨⟨rfl, rfl, hR.1, hR.2, pay_in hts hG, hcm⟩, hts _ (hG _ hcm).1, hts _ hini, ⟨hd.1, hd.2.1⟩, fun sig h9 => by
      have h2 := hd.2.2
      rw [h9] at h2
      exact (Option.some.inj h2).symm, hts _ hlink, hts _ hst⟩ ⟨am_blind, fun U hU hW => am_pre C J as hU hW⟩ rfl (by rw [List.length_map]; exact hn) hsz (am_stk ad as rest) (lv_room hW) hdg ⟨hc, hs'⟩
theorem am_rcv_ok {ci : Nat} {as : List am_V} {h : am_H} (hr : am_rcv (some ci) as h = true) : ∃ k fs as', as = .inl (.ref k) :: as' ∧ h[k]? = some (.inr (.inr (.inl (ci, fs)))) := by
  unfold am_rcv at hr
  dsimp only at hr
  split at hr
  · rename_i k as'
    split at hr
    · rename_i ci' fs hk
      have := eq_of_beq hr
      subst this
      exact ⟨k, fs, as', rfl, hk⟩
    · cases hr
  · cases hr
theorem am_rn_V {ci N : Nat} {T : u_T} (C : am_Cx p l R s m args meth c cc nL Ts own D cl tc A rs zs hs ad0) (hcl : cl[ci]? = some (y.cls, T, N)) (hM : am_M cl rs zs l y ws rm F) (hw : ws = Cond.code y bytes maxL ret :: ws') (hG : GoodIn Ts ws) (hlink : Cond.methodLink own idx y ∈ Ts) (hin : Cond.instanceMethod y ∈ Ts) (hse : Cond.selects y.cls y y ∈ Ts) (hini : Cond.initialized y.cls ∈ Ts)
    (hd : y.cls ≠ "java/lang/invoke/MethodHandle" ∧ y.cls ≠ "java/lang/invoke/VarHandle" ∧ (parseMethodDescriptor y.desc).map (fun d => d.parameters.length) = some n) (hR : rm.frames + 1 ≤ R.frames ∧ 8 + (maxL + 11) + rm.locals ≤ R.locals) : am_rn p l e R s m args below meth c D cl tc A nL n0 ad0 cc (3, idx) (some ci) (n + 1) F rm.cells rm.slots := by
  intro pc i ad h H locs cells slots ls as rest o1 hkey hdg J hsz hrc hn hW hF hc hs'
  have hi := am_key3 hkey
  subst hi
  have S := C.1.1
  have hts := S.2.2.2.2
  obtain ⟨k, fs, as', rfl, hk⟩ := am_rcv_ok hrc
  obtain ⟨q0, hq⟩ := am_rd J hk 0 rfl
  exact vx_runV (b := ad.1 k none) (As := as'.map (am_t ad)) S (hM D tc ad _ h H.size o1 hF) ⟨callB_of n hts hG hw rfl rfl (hts _ hini) (hts _ hlink) hd hR, hts _ hin, hts _ hse⟩ ⟨am_blind, va_recv C.1.2.1 J.2.2.2.1 hcl hq, fun U hU hW => am_pre C J _ hU hW⟩ rfl (by rw [List.length_map]; exact Nat.succ.inj hn) hsz (by rw [am_stk, List.map_cons, List.reverse_cons, List.append_assoc]; rfl) (lv_room hW) hdg ⟨hc, hs'⟩
/-- a method whose run returns: its contract without exceptions -/
theorem am_met {Pc : Array Value → State → Prop} {A1 : Nat → Prop} {n1 : Nat} {ad1 : am_A} {v : Option am_V} {h' : am_H} {mc ms : Nat} {free : Addr → Prop} (h : vx_Met l y ws rm Pc (am_Qc D cl tc A1 n1 ad1 (.inl v, h')) (am_XC D cl tc A1 n1 ad1 (.inl v, h')) mc ms free) : Met l y ws rm Pc (am_Qc D cl tc A1 n1 ad1 (.inl v, h')) mc ms free := by
  intro p e a1 a2 a3 s m args below a4 a5 a6 a7
  obtain ⟨n, o, b1, b2, b3, b4⟩ := h p e a1 a2 a3 s m args below a4 a5 a6 a7
  refine ⟨n, o, b1, b2, b3, ?_⟩
  rcases b4 with b4 | ⟨q, -, E, ce, L, ⟨⟨x, h9, ad, -, e9, -⟩, -⟩, -⟩
  · exact b4
  · cases e9
/-- a run that returns -/
def am_nx (F : List am_V → am_H → Option am_O) : List am_V → am_H → Option am_O := fun as h => match F as h with
  | some (.inl v, h') => some (.inl v, h')
  | _ => none
theorem am_rn_I {ci : Nat} (C : am_Cx p l R s m args meth c cc nL Ts own D cl tc A rs zs hs ad0) (hM : am_M cl rs zs l y ws rm F) (hy1 : y.name = "<init>") (hw : ws = Cond.code y bytes maxL none :: ws') (hG : GoodIn Ts ws) (hlink : Cond.methodLink own idx y ∈ Ts) (hin : Cond.instanceMethod y ∈ Ts) (hini : Cond.initialized y.cls ∈ Ts)
    (hd : y.cls ≠ "java/lang/invoke/MethodHandle" ∧ y.cls ≠ "java/lang/invoke/VarHandle" ∧ (parseMethodDescriptor y.desc).map (fun d => d.parameters.length) = some n) (hR : rm.frames + 1 ≤ R.frames ∧ 8 + (maxL + 11) + rm.locals ≤ R.locals) : am_rn p l e R s m args below meth c D cl tc A nL n0 ad0 cc (4, idx) (some ci) (n + 1) (am_nx F) rm.cells rm.slots := by
  intro pc i ad h H locs cells slots ls as rest o1 hkey hdg J hsz hrc hn hW hF hc hs'
  have hi := am_key4 hkey
  subst hi
  have S := C.1.1
  have hts := S.2.2.2.2
  obtain ⟨k, fs, as', rfl, hk⟩ := am_rcv_ok hrc
  unfold am_nx at hF
  split at hF
  · rename_i v h1 hF0
    cases hF
    have hF := hF0
    intro T hT X
    obtain ⟨v', st₀, t, T', L, r1, r2, r3, r4, r5, r6, r7⟩ := (va_runI (g := F0 m pc ls (((Sum.inl (Value.ref k) :: as').reverse ++ rest).map (am_t ad))) (rest := rest.map (am_t ad)) (b := ad.1 k none) (As := as'.map (am_t ad)) S (am_met (hM D tc ad _ h H.size _ hF)) ⟨callB_of n hts hG hw rfl rfl (hts _ hini) (hts _ hlink) hd hR, hy1, hts _ hin⟩ ⟨am_blind, fun U hU hW => am_pre C J _ hU hW⟩ rfl (by rw [List.length_map]; exact Nat.succ.inj hn) hsz (by rw [am_stk, List.map_cons, List.reverse_cons, List.append_assoc]; rfl) (lv_room hW) hdg ⟨hc, hs'⟩ : va_Run p l e R s m args below meth c H locs cells slots rm.cells rm.slots _ _ _ _) T hT X
    exact Or.inl ⟨v', st₀, t, T', L, r1, r2, r3, r4, r5, r6, r7⟩
  · cases hF
/-- Object's constructor -/
def am_fobj : am_F := fun is _ st h b K _ => if am_n is = 3 then (match st with
  | .inl (.ref _) :: r => if (r.map am_cat).sum ≤ 8 then K r h b else none
  | _ => none) else none
theorem am_fobj_ok (C : am_Cx p l R s m args meth c cc nL Ts own D cl tc A rs zs hs ad0) (hlink : Cond.methodLink own idx objectInit ∈ Ts) (hin : Cond.instanceMethod objectInit ∈ Ts) (hcode : Cond.code objectInit ⟨#[0xb1]⟩ 1 none ∈ Ts) (hR : 1 ≤ R.frames ∧ 20 ≤ R.locals) : am_op p l e R s m args below meth c D cl tc A nL n0 ad0 cc (4, idx) am_fobj := by
  intro out pc n3 i is lv st h b K KX hkey hch h1 kk kx ad H locs cells slots ls J hl hc' hs'
  have hi := am_key4 hkey
  subst hi
  obtain ⟨⟨⟨hx, hb, hml, hown, hts⟩, hK, hA, hro⟩, hzs, -⟩ := C
  unfold am_fobj at h1
  replace h1 := am_if h1
  obtain ⟨a0, h1⟩ := h1
  have a0 : n3 = 3 := a0
  subst a0
  split at h1
  · rename_i k r
    obtain ⟨hsm, h1⟩ := am_if h1
    refine W.objInit hx hb hown (hts _ hlink) (hts _ hin) (hts _ hcode) rfl (hl.1.trans hml.symm) rfl (am_chk_hd hch) hR.1 ?_ ?_
    · show 2 * _ + ((r.map (am_t ad)).map fun v => v.category).sum + 12 ≤ R.locals
      rw [am_catsum]
      show 2 * 0 + _ + 12 ≤ _
      omega
    · exact kk _ _ _ h1 ad H locs cells slots ls J hl hc' hs'
  · cases h1
/-- Math.max, Math.min -/
def am_fmx : am_F := fun is _ st h b K _ => if am_n is = 3 then (match st with
  | .inl (.int y) :: .inl (.int x) :: r => if (r.map am_cat).sum ≤ 8 then K (.inl (.int (if x < y then y else x)) :: r) h b else none
  | _ => none) else none
def am_fmn : am_F := fun is _ st h b K _ => if am_n is = 3 then (match st with
  | .inl (.int y) :: .inl (.int x) :: r => if (r.map am_cat).sum ≤ 8 then K (.inl (.int (if y < x then y else x)) :: r) h b else none
  | _ => none) else none
theorem am_fmx_ok (C : am_Cx p l R s m args meth c cc nL Ts own D cl tc A rs zs hs ad0) (hlink : Cond.methodLink own idx Lib.Math.max.name ∈ Ts) (hst : Cond.static Lib.Math.max.name ∈ Ts) (hini : Cond.initialized "java/lang/Math" ∈ Ts) (hcode : Cond.code Lib.Math.max.name Lib.Math.max.code 2 (some .int) ∈ Ts) (hR : 1 ≤ R.frames ∧ 21 ≤ R.locals) : am_op p l e R s m args below meth c D cl tc A nL n0 ad0 cc (2, idx) am_fmx := by
  intro out pc n3 i is lv st h b K KX hkey hch h1 kk kx ad H locs cells slots ls J hl hc' hs'
  have hi := am_key2 hkey
  subst hi
  obtain ⟨⟨⟨hx, hb, hml, hown, hts⟩, hK, hA, hro⟩, hzs, -⟩ := C
  unfold am_fmx at h1
  replace h1 := am_if h1
  obtain ⟨a0, h1⟩ := h1
  have a0 : n3 = 3 := a0
  subst a0
  split at h1
  · rename_i y x r
    obtain ⟨hsm, h1⟩ := am_if h1
    exact va_mmax hx hb (hml.trans hl.1.symm) hown (hts _ hlink) (hts _ hst) (hts _ hini) (hts _ hcode) hR.1 (by rw [am_catsum]; omega) (by omega) (by omega) (am_chk_hd hch) (kk _ _ _ h1 ad H locs cells slots ls J hl hc' hs')
  · cases h1
theorem am_fmn_ok (C : am_Cx p l R s m args meth c cc nL Ts own D cl tc A rs zs hs ad0) (hlink : Cond.methodLink own idx Lib.Math.min.name ∈ Ts) (hst : Cond.static Lib.Math.min.name ∈ Ts) (hini : Cond.initialized "java/lang/Math" ∈ Ts) (hcode : Cond.code Lib.Math.min.name Lib.Math.min.code 2 (some .int) ∈ Ts) (hR : 1 ≤ R.frames ∧ 21 ≤ R.locals) : am_op p l e R s m args below meth c D cl tc A nL n0 ad0 cc (2, idx) am_fmn := by
  intro out pc n3 i is lv st h b K KX hkey hch h1 kk kx ad H locs cells slots ls J hl hc' hs'
  have hi := am_key2 hkey
  subst hi
  obtain ⟨⟨⟨hx, hb, hml, hown, hts⟩, hK, hA, hro⟩, hzs, -⟩ := C
  unfold am_fmn at h1
  replace h1 := am_if h1
  obtain ⟨a0, h1⟩ := h1
  have a0 : n3 = 3 := a0
  subst a0
  split at h1
  · rename_i y x r
    obtain ⟨hsm, h1⟩ := am_if h1
    exact va_mmin hx hb (hml.trans hl.1.symm) hown (hts _ hlink) (hts _ hst) (hts _ hini) (hts _ hcode) hR.1 (by rw [am_catsum]; omega) (by omega) (by omega) (am_chk_hd hch) (kk _ _ _ h1 ad H locs cells slots ls J hl hc' hs')
  · cases h1
end AMN
end
section
/-! cells that are made -/
def am_clC (h : am_H) (c : am_C) : Bool := match c with
  | .inr (.inr (.inl (_, fs))) => fs.all (am_clV h)
  | _ => true
def am_clA (h : am_H) (lv : am_Lv) (st : List am_V) : Bool := h.all (am_clC h) && (lv.all (fun q => am_clV h q.2) && st.all (am_clV h))
def am_ex (ad : am_A) (n : Nat) (f : Option Nat → Nat) : am_A := (fun k => if k = n then f else ad.1 k, ad.2)
theorem am_ex_lt (ad : am_A) {n k : Nat} (f : Option Nat → Nat) (h : k < n) : (am_ex ad n f).1 k = ad.1 k := if_neg (Nat.ne_of_lt h)
theorem am_ex_self (ad : am_A) (n : Nat) (f : Option Nat → Nat) : (am_ex ad n f).1 n = f := if_pos rfl
theorem am_w1_ext {tc : Nat → ClassId} {ad ad' : am_A} {h : am_H} (h1 : ∀ k, k < h.length → ad'.1 k = ad.1 k) (h2 : ad'.2 = ad.2) {k : Nat} (hk : k < h.length) {c : am_C} (hc : am_clC h c = true) : am_w1 tc ad' k c = am_w1 tc ad k c := by
  obtain ⟨t, n, f⟩ | ⟨n, w, M⟩ | ⟨ci, fs⟩ | ⟨n, g⟩ := c
  · simp only [am_w1, h1 k hk]
  · simp only [am_w1, h1 k hk]
  · have hc' : fs.all (am_clV h) = true := hc
    simp only [am_w1, h1 k hk, am_cl_L hc' h1 h2]
  · simp only [am_w1, h1 k hk]
theorem am_ws_ext {tc : Nat → ClassId} {ad ad' : am_A} {h : am_H} (h1 : ∀ k, k < h.length → ad'.1 k = ad.1 k) (h2 : ad'.2 = ad.2) : ∀ (h0 : am_H) (k0 : Nat), k0 + h0.length ≤ h.length → (∀ c ∈ h0, am_clC h c = true) → am_ws tc ad' k0 h0 = am_ws tc ad k0 h0
  | [], _, _, _ => rfl
  | c :: h0, k0, hl, hc => by
    show am_w1 tc ad' k0 c ++ am_ws tc ad' (k0 + 1) h0 = am_w1 tc ad k0 c ++ am_ws tc ad (k0 + 1) h0
    rw [List.length_cons] at hl
    rw [am_w1_ext h1 h2 (by omega) (hc c List.mem_cons_self), am_ws_ext h1 h2 h0 (k0 + 1) (by omega) (fun c hc' => hc c (List.mem_cons_of_mem _ hc'))]
theorem am_ws_app {tc : Nat → ClassId} {ad : am_A} : ∀ (h0 h1 : am_H) (k0 : Nat), am_ws tc ad k0 (h0 ++ h1) = am_ws tc ad k0 h0 ++ am_ws tc ad (k0 + h0.length) h1
  | [], h1, k0 => by simp [am_ws]
  | c :: h0, h1, k0 => by
    show am_w1 tc ad k0 c ++ am_ws tc ad (k0 + 1) (h0 ++ h1) = (am_w1 tc ad k0 c ++ am_ws tc ad (k0 + 1) h0) ++ am_ws tc ad (k0 + (c :: h0).length) h1
    rw [am_ws_app h0 h1 (k0 + 1), List.append_assoc, List.length_cons, show k0 + 1 + h0.length = k0 + (h0.length + 1) by omega]
section AMA
variable {p : Program} {l : Launch} {e : Env} {R : Room} {s : State} {m : MethodId} {args : Array Value} {below : List Frame} {meth : Method} {c : Code} {D : va_G} {cl : List vw_C} {tc : Nat → ClassId} {A : Nat → Prop} {nL n0 : Nat} {ad0 : am_A} {cc : ByteArray} {own : String} {Ts : List Cond} {rs : Nat → Option (Nat × (Nat → Int32))} {zs : am_Zt} {hs : am_Hs}
/-- what is made is the heap's next cell -/
theorem am_made {ad : am_A} {h : am_H} {H H1 : Heap} {locs : List Loc} (J : am_J D cl tc A s n0 ad0 ad h H locs) {lv : am_Lv} {st : List am_V} (hcl : am_clA h lv st = true) (f : Option Nat → Nat) (c0 : am_C) {w : va_W} (hw : am_w1 tc (am_ex ad h.length f) h.length c0 = w) (hP : va_P D cl (am_ws tc ad 0 h ++ w) H1) (hD : va_D A (am_ws tc ad 0 h ++ w)) (hS : va_S A s.heap H1 locs) :
    am_J D cl tc A s n0 ad0 (am_ex ad h.length f) (h ++ [c0]) H1 locs ∧ (lv.map fun q => (q.1, am_t (am_ex ad h.length f) q.2)) = (lv.map fun q => (q.1, am_t ad q.2)) ∧ st.map (am_t (am_ex ad h.length f)) = st.map (am_t ad) := by
  simp only [am_clA, Bool.and_eq_true] at hcl
  obtain ⟨c1, c2, c3⟩ := hcl
  have e1 : ∀ k, k < h.length → (am_ex ad h.length f).1 k = ad.1 k := fun k hk => am_ex_lt ad f hk
  have e2 : (am_ex ad h.length f).2 = ad.2 := rfl
  obtain ⟨j1, j2, j3, -, -, -⟩ := J
  have e3 : am_ws tc (am_ex ad h.length f) 0 (h ++ [c0]) = am_ws tc ad 0 h ++ w := by
    rw [am_ws_app, am_ws_ext e1 e2 h 0 (by omega) (List.all_eq_true.mp c1), Nat.zero_add]
    show _ ++ (am_w1 tc _ h.length c0 ++ []) = _
    rw [List.append_nil, hw]
  refine ⟨⟨?_, fun k hk => (e1 k (Nat.lt_of_lt_of_le hk j1)).trans (j2 k hk), j3, ?_, ?_, hS⟩, am_cl_lv c2 e1 e2, am_cl_L c3 e1 e2⟩
  · rw [List.length_append]; omega
  · rw [e3]; exact hP
  · rw [e3]; exact hD
def am_nw (t N : Nat) : am_C := if t = 2 then .inr (.inr (.inr (N, fun _ => 0))) else .inl (t, N, fun _ => 0)
/-- a new array of ints (0), of booleans (1), of longs (2) -/
def am_fna (t : Nat) : am_F := fun is lv st h b K _ => if am_n is = 2 then (match st with
  | .inl (.int n) :: r => if am_clA h lv r = true then (if 1 ≤ b.1 then (bif am_in n 1000 && decide (n.toNatClampNeg ≤ b.2) then K (.inl (.ref h.length) :: r) (h ++ [am_nw t n.toNatClampNeg]) (b.1 - 1, b.2 - n.toNatClampNeg) else none) else none) else none
  | _ => none) else none
theorem am_key8 {i : Instr} {k : Nat} (h : am_key i = (8, k)) : (k = 0 ∧ i = .newarray .int) ∨ (k = 1 ∧ i = .newarray .boolean) ∨ (k = 2 ∧ i = .newarray .long) := by
  unfold am_key at h
  split at h <;> simp_all
theorem am_tcI {cA : ClassId} {ty : FieldType} {t0 : Nat} (hK : va_K D cl (am_tys tc) s) (ht : (am_tys tc)[t0]? = some (tc t0, ty)) (ho : ∀ C, ty ≠ .object C) (h : va_K D cl (am_tys tc ++ [(cA, ty)]) s) : cA = tc t0 := by
  have h1 := (hK.2 t0 _ ht).2
  have h2 := (h.2 4 (cA, ty) rfl).2
  cases ty with
  | object C => exact absurd rfl (ho C)
  | _ =>
    unfold va_RA at h1 h2
    exact Option.some.inj (h2.symm.trans h1)
theorem am_fna_ok (C : am_Cx p l R s m args meth c cc nL Ts own D cl tc A rs zs hs ad0) {t : Nat} (hty : (t = 0 ∧ Cond.arrayClass .int ∈ Ts) ∨ (t = 1 ∧ Cond.arrayClass .boolean ∈ Ts) ∨ (t = 2 ∧ Cond.arrayClass .long ∈ Ts)) : am_op p l e R s m args below meth c D cl tc A nL n0 ad0 cc (8, t) (am_fna t) := by
  intro out pc n3 i is lv st h b K KX hkey hch h1 kk kx ad H locs cells slots ls J hl hc' hs'
  obtain ⟨⟨⟨hx, hb, hml, hown, hts⟩, hK, hA, hro⟩, hzs, -⟩ := C
  unfold am_fna at h1
  replace h1 := am_if h1
  obtain ⟨a0, h1⟩ := h1
  have a0 : n3 = 2 := a0
  subst a0
  split at h1
  · rename_i n r
    obtain ⟨hcl, h1⟩ := am_if h1
    obtain ⟨hb1, h1⟩ := am_if h1
    obtain ⟨hb2, h1⟩ := am_bif h1
    simp only [Bool.and_eq_true, decide_eq_true_eq] at hb2
    obtain ⟨hn, hb2⟩ := hb2
    have hn := am_invp hn
    have hn0 : ¬ n < 0 := fun q => hn (Or.inl q)
    have hn1 : n.toNatClampNeg < 1000 := Nat.not_le.mp fun q => hn (Or.inr q)
    have hJ := J
    obtain ⟨j1, j2, j3, hP, hD, hS⟩ := J
    rcases hty with ⟨rfl, hw⟩ | ⟨rfl, hw⟩ | ⟨rfl, hw⟩ <;> rcases am_key8 hkey with ⟨q9, rfl⟩ | ⟨q9, rfl⟩ | ⟨q9, rfl⟩ <;> first | cases q9 | skip
    · refine va_newa (atype := .int) (ty := .int) (a0 := (n.toNatClampNeg, .inl (fun _ => 0))) hx hb (hts _ hw) rfl hK hP hD hS hA (fun _ => rfl) hn0 rfl (by show _ * 4 ≤ _; omega) (by omega) (by omega) (am_chk_hd hch) (fun q cA H1 hK1 hP1 hD1 hS1 => ?_)
      have e9 : cA = tc 0 := am_tcI (t0 := 0) hK rfl (fun C => by simp) hK1
      subst e9
      obtain ⟨J1, l1, l2⟩ := am_made hJ hcl (fun _ => q) (am_nw 0 n.toNatClampNeg) (by show [_] = _; rw [am_ex_self]) hP1 hD1 hS1
      have w1 := kk _ _ _ h1 _ H1 locs (cells + 1) (slots + n.toNatClampNeg) ls J1 (by rw [l1]; exact hl) (by show _ + 1 + (b.1 - 1) ≤ _; omega) (by show _ + _ + (b.2 - _) ≤ _; omega)
      rw [List.map_cons, l2] at w1
      have e8 : am_t (am_ex ad h.length fun _ => q) (.inl (.ref h.length)) = .ref q := by show Value.ref _ = _; rw [am_ex_self]
      rw [e8] at w1
      exact w1
    · refine va_newa (atype := .boolean) (ty := .boolean) (a0 := (n.toNatClampNeg, .inl (fun _ => 0))) hx hb (hts _ hw) rfl hK hP hD hS hA (fun _ => rfl) hn0 rfl (by show _ * 1 ≤ _; omega) (by omega) (by omega) (am_chk_hd hch) (fun q cA H1 hK1 hP1 hD1 hS1 => ?_)
      have e9 : cA = tc 1 := am_tcI (t0 := 1) hK rfl (fun C => by simp) hK1
      subst e9
      obtain ⟨J1, l1, l2⟩ := am_made hJ hcl (fun _ => q) (am_nw 1 n.toNatClampNeg) (by show [_] = _; rw [am_ex_self]) hP1 hD1 hS1
      have w1 := kk _ _ _ h1 _ H1 locs (cells + 1) (slots + n.toNatClampNeg) ls J1 (by rw [l1]; exact hl) (by show _ + 1 + (b.1 - 1) ≤ _; omega) (by show _ + _ + (b.2 - _) ≤ _; omega)
      rw [List.map_cons, l2] at w1
      have e8 : am_t (am_ex ad h.length fun _ => q) (.inl (.ref h.length)) = .ref q := by show Value.ref _ = _; rw [am_ex_self]
      rw [e8] at w1
      exact w1
    · refine va_newa (atype := .long) (ty := .long) (a0 := (n.toNatClampNeg, .inr (.inl (fun _ => 0)))) hx hb (hts _ hw) rfl hK hP hD hS hA (fun _ => rfl) hn0 rfl (by show _ * 8 ≤ _; omega) (by omega) (by omega) (am_chk_hd hch) (fun q cA H1 hK1 hP1 hD1 hS1 => ?_)
      have e9 : cA = tc 3 := am_tcI (t0 := 3) hK rfl (fun C => by simp) hK1
      subst e9
      obtain ⟨J1, l1, l2⟩ := am_made hJ hcl (fun _ => q) (am_nw 2 n.toNatClampNeg) (by show [_] = _; rw [am_ex_self]) hP1 hD1 hS1
      have w1 := kk _ _ _ h1 _ H1 locs (cells + 1) (slots + n.toNatClampNeg) ls J1 (by rw [l1]; exact hl) (by show _ + 1 + (b.1 - 1) ≤ _; omega) (by show _ + _ + (b.2 - _) ≤ _; omega)
      rw [List.map_cons, l2] at w1
      have e8 : am_t (am_ex ad h.length fun _ => q) (.inl (.ref h.length)) = .ref q := by show Value.ref _ = _; rw [am_ex_self]
      rw [e8] at w1
      exact w1
  · cases h1
/-- a new object -/
def am_fnew (ci N : Nat) (fs : List am_V) : am_F := fun is lv st h b K _ => if am_n is = 3 then (if am_clA h lv st = true then (if 1 ≤ b.1 then (if N ≤ b.2 then K (.inl (.ref h.length) :: st) (h ++ [.inr (.inr (.inl (ci, fs)))]) (b.1 - 1, b.2 - N) else none) else none) else none) else none
theorem am_fnew_ok (C : am_Cx p l R s m args meth c cc nL Ts own D cl tc A rs zs hs ad0) {idx ci N : Nat} {T : u_T} {Cn : String} {fs : List am_V} (fv : List Value) (hfv : ∀ ad, fs.map (am_t ad) = fv) (hc : cl[ci]? = some (Cn, T, N)) (hin : ∀ w ∈ u_ws Cn T N, w ∈ Ts) (ty : Nat → FieldType) (hty : ∀ k, k < N → parseFieldDescriptor (T k).2.2.1 = some (ty k)) (hlink : Cond.classLink own idx Cn ∈ Ts) (hinst : Cond.instantiable Cn N ∈ Ts) (hini : Cond.initialized Cn ∈ Ts) (hfs : ∀ j, j < N → defaultValue (ty j) = vp_V fv j) : am_op p l e R s m args below meth c D cl tc A nL n0 ad0 cc (5, idx) (am_fnew ci N fs) := by
  intro out pc n3 i is lv st h b K KX hkey hch h1 kk kx ad H locs cells slots ls J hl hc' hs'
  have hi := am_key5 hkey
  subst hi
  obtain ⟨⟨⟨hx, hb, hml, hown, hts⟩, hK, hA, hro⟩, hzs, -⟩ := C
  unfold am_fnew at h1
  replace h1 := am_if h1
  obtain ⟨a0, h1⟩ := h1
  have a0 : n3 = 3 := a0
  subst a0
  obtain ⟨hcl, h1⟩ := am_if h1
  obtain ⟨hb1, h1⟩ := am_if h1
  obtain ⟨hb2, h1⟩ := am_if h1
  have hJ := J
  obtain ⟨j1, j2, j3, hP, hD, hS⟩ := J
  refine va_new (D := D) (ci := ci) (fs := fv) hx hb hts hin ty hty hown (hts _ hlink) (hts _ hinst) (hts _ hini) hK hP hD hS hA hc hfs (by omega) (by omega) (am_chk_hd hch) (fun q H1 hP1 hD1 hS1 => ?_)
  obtain ⟨J1, l1, l2⟩ := am_made hJ hcl (fun _ => q) (.inr (.inr (.inl (ci, fs)))) (by show [_] = _; rw [am_ex_self, hfv]) hP1 hD1 hS1
  have w1 := kk _ _ _ h1 _ H1 locs (cells + 1) (slots + N) ls J1 (by rw [l1]; exact hl) (by show _ + 1 + (b.1 - 1) ≤ _; omega) (by show _ + _ + (b.2 - _) ≤ _; omega)
  rw [List.map_cons, l2] at w1
  have e8 : am_t (am_ex ad h.length fun _ => q) (.inl (.ref h.length)) = .ref q := by show Value.ref _ = _; rw [am_ex_self]
  rw [e8] at w1
  exact w1
/-- a new grid of ints -/
def am_fmna : am_F := fun is lv st h b K _ => match is with
  | (_, .multianewarray _ d, n3) :: _ => if d = 2 then (if n3 = 4 then (match st with
    | .inl (.int k) :: .inl (.int n) :: r => if am_clA h lv r = true then (bif am_in n 1000 && am_in k 1000 then (if 1 + n.toNatClampNeg ≤ b.1 then (if n.toNatClampNeg + n.toNatClampNeg * k.toNatClampNeg ≤ b.2 then K (.inl (.ref h.length) :: r) (h ++ [.inr (.inl (n.toNatClampNeg, k.toNatClampNeg, fun _ _ => 0))]) (b.1 - (1 + n.toNatClampNeg), b.2 - (n.toNatClampNeg + n.toNatClampNeg * k.toNatClampNeg)) else none) else none) else none) else none
    | _ => none) else none) else none
  | _ => none
theorem am_key7 {i : Instr} {k : Nat} (h : am_key i = (7, k)) : ∃ d, i = .multianewarray k d := by
  unfold am_key at h
  split at h <;> simp_all
theorem am_fmna_ok (C : am_Cx p l R s m args meth c cc nL Ts own D cl tc A rs zs hs ad0) {idx : Nat} (hlink : Cond.classLink own idx "[[I" ∈ Ts) (harr : Cond.arrayClass .int ∈ Ts) : am_op p l e R s m args below meth c D cl tc A nL n0 ad0 cc (7, idx) am_fmna := by
  intro out pc n3 i is lv st h b K KX hkey hch h1 kk kx ad H locs cells slots ls J hl hc' hs'
  obtain ⟨d, rfl⟩ := am_key7 hkey
  obtain ⟨⟨⟨hx, hb, hml, hown, hts⟩, hK, hA, hro⟩, hzs, -⟩ := C
  unfold am_fmna at h1
  dsimp only at h1
  replace h1 := am_if h1
  obtain ⟨rfl, h1⟩ := h1
  replace h1 := am_if h1
  obtain ⟨rfl, h1⟩ := h1
  split at h1
  · rename_i k n r
    obtain ⟨hcl, h1⟩ := am_if h1
    obtain ⟨hb2, h1⟩ := am_bif h1
    simp only [Bool.and_eq_true] at hb2
    obtain ⟨hn, hk⟩ := hb2
    have hn := am_invp hn
    have hk := am_invp hk
    have hn0 : ¬ n < 0 := fun q => hn (Or.inl q)
    have hn1 : n.toNatClampNeg < 1000 := Nat.not_le.mp fun q => hn (Or.inr q)
    have hk0 : ¬ k < 0 := fun q => hk (Or.inl q)
    have hk1 : k.toNatClampNeg < 1000 := Nat.not_le.mp fun q => hk (Or.inr q)
    obtain ⟨hb1, h1⟩ := am_if h1
    obtain ⟨hb3, h1⟩ := am_if h1
    have hJ := J
    obtain ⟨j1, j2, j3, hP, hD, hS⟩ := J
    have hP0 : va_P D cl (am_ws tc ad 0 h ++ va_pl [] (fun _ => (.inr (0, []) : va_E))) H := by rw [show va_pl [] (fun _ => (.inr (0, []) : va_E)) = [] from rfl, List.append_nil]; exact hP
    have hD0 : va_D A (am_ws tc ad 0 h ++ va_pl [] (fun _ => (.inr (0, []) : va_E))) := by rw [show va_pl [] (fun _ => (.inr (0, []) : va_E)) = [] from rfl, List.append_nil]; exact hD
    refine va_mna (X := am_ws tc ad 0 h) (L := []) (f := fun _ => .inr (0, [])) (ty := .int) (cy := tc 0) (N' := n.toNatClampNeg) (K' := k.toNatClampNeg) (z := (k.toNatClampNeg, .inl (fun _ => 0))) hx hb hown (by rw [show ("[" ++ (FieldType.array FieldType.int).toString) = "[[I" by decide +kernel]; exact hts _ hlink) hzs.2.1 (hts _ harr) (by rw [show (FieldType.array FieldType.int).toString = "[" ++ FieldType.int.toString by decide +kernel]; exact (hK.2 0 _ rfl).2) hK hP0 hD0 hS hA hn0 hk0 rfl rfl (by omega) (by show _ * 4 ≤ _; omega) (by omega) rfl rfl (by omega) (by omega) (fun _ => arrV_new _ _ _) (am_chk_hd hch) (fun q r1 cA H1 hr1 hr2 hK1 hP1 hD1 hS1 => ?_)
    have e9 : cA = tc 2 := am_tcI (t0 := 2) hK rfl (fun C => by simp) hK1
    subst e9
    have ew : am_ws tc ad 0 h ++ [(q, (.inl (tc 2, n.toNatClampNeg, .inr (.inr (.inr (.inr (fun i => if i < n.toNatClampNeg then some (r1 i) else none))))) : va_E))] ++ va_pl ([] ++ (List.range n.toNatClampNeg).map r1) (vr_up (fun _ => .inr (0, [])) ((List.range n.toNatClampNeg).map r1) (.inl (tc 0, k.toNatClampNeg, .inl (fun _ => 0)))) = am_ws tc ad 0 h ++ ((q, (.inl (tc 2, n.toNatClampNeg, .inr (.inr (.inr (.inr (fun i => if i < n.toNatClampNeg then some (r1 i) else none))))) : va_E)) :: (List.range n.toNatClampNeg).map (fun i => (r1 i, (.inl (tc 0, k.toNatClampNeg, .inl (fun _ => 0)) : va_E)))) := by
      rw [List.append_assoc, List.nil_append]
      congr 1
      show _ :: va_pl _ _ = _ :: _
      congr 1
      unfold va_pl
      rw [List.map_map]
      apply List.map_congr_left
      intro a ha
      show (r1 a, vr_up _ _ _ (r1 a)) = _
      rw [vr_up_in (List.mem_map_of_mem ha)]
    rw [ew] at hP1 hD1
    obtain ⟨J1, l1, l2⟩ := am_made hJ hcl (fun o => match o with | none => q | some i => r1 i) (.inr (.inl (n.toNatClampNeg, k.toNatClampNeg, fun _ _ => 0))) (by simp only [am_w1, am_ex_self]) hP1 hD1 hS1
    have w1 := kk _ _ _ h1 _ H1 locs (cells + 1 + n.toNatClampNeg) (slots + n.toNatClampNeg + n.toNatClampNeg * k.toNatClampNeg) ls J1 (by rw [l1]; exact hl) (by show _ + 1 + _ + (b.1 - _) ≤ _; omega) (by show _ + _ + _ + (b.2 - _) ≤ _; omega)
    rw [List.map_cons, l2] at w1
    have e8 : am_t (am_ex ad h.length fun o => match o with | none => q | some i => r1 i) (.inl (.ref h.length)) = .ref q := by show Value.ref _ = _; rw [am_ex_self]
    rw [e8] at w1
    exact w1
  · cases h1
/-- System.arraycopy of ints -/
def am_fcpy : am_F := fun is _ st h b K _ => if am_n is = 3 then (match st with
  | .inl (.int n) :: .inl (.int dp) :: .inl (.ref k1) :: .inl (.int sp) :: .inl (.ref k0) :: r => (match h[k0]?, h[k1]? with
    | some (.inl (t0, n0, f)), some (.inl (t1, n1, g)) => if t0 = 0 then (if t1 = 0 then (if (r.map am_cat).sum ≤ 8 then (bif !decide (sp < 0) && (!decide (dp < 0) && (!decide (n < 0) && (decide (sp.toNatClampNeg + n.toNatClampNeg ≤ n0) && decide (dp.toNatClampNeg + n.toNatClampNeg ≤ n1)))) then K r (h.set k1 (.inl (t1, n1, va_cpy f g sp.toNatClampNeg dp.toNatClampNeg n.toNatClampNeg))) b else none) else none) else none) else none
    | _, _ => none)
  | _ => none) else none
theorem am_fcpy_ok (C : am_Cx p l R s m args meth c cc nL Ts own D cl tc A rs zs hs ad0) {idx : Nat} (hlink : Cond.methodLink own idx arraycopyName ∈ Ts) (hnat : Cond.native arraycopyName ∈ Ts) (hst : Cond.static arraycopyName ∈ Ts) (hini : Cond.initialized "java/lang/System" ∈ Ts) (hR : 1 ≤ R.frames ∧ 8 + (nativeFrameWords "java/lang/System" "arraycopy" 5 + 11) ≤ R.locals) : am_op p l e R s m args below meth c D cl tc A nL n0 ad0 cc (2, idx) am_fcpy := by
  intro out pc n3 i is lv st h b K KX hkey hch h1 kk kx ad H locs cells slots ls J hl hc' hs'
  have hi := am_key2 hkey
  subst hi
  obtain ⟨⟨⟨hx, hb, hml, hown, hts⟩, hK, hA, hro⟩, hzs, -⟩ := C
  unfold am_fcpy at h1
  replace h1 := am_if h1
  obtain ⟨a0, h1⟩ := h1
  have a0 : n3 = 3 := a0
  subst a0
  split at h1
  · split at h1
    · rename_i hk0 hk1
      replace h1 := am_if h1
      obtain ⟨rfl, h1⟩ := h1
      replace h1 := am_if h1
      obtain ⟨rfl, h1⟩ := h1
      obtain ⟨hsm, h1⟩ := am_if h1
      obtain ⟨hq, h1⟩ := am_bif h1
      simp only [Bool.and_eq_true, Bool.not_eq_true', decide_eq_true_eq, decide_eq_false_iff_not] at hq
      obtain ⟨q1, q2, q3, q4, q5⟩ := hq
      obtain ⟨p0, g0⟩ := am_rd J hk0 0 rfl
      obtain ⟨p1, g1, g2⟩ := am_wrA J hk1 _
      obtain ⟨j1, j2, j3, hP, hD, hS⟩ := J
      exact va_copyi (ty := .int) hx hb (hml.trans hl.1.symm) hown (hts _ hlink) (hts _ hnat) (hts _ hst) (hts _ hini) hK hP hD hS p0 p1 0 0 g0 g1 rfl rfl rfl q1 q2 q3 q4 q5 (fun _ _ => rfl) hR.1 (by rw [am_catsum]; omega) (am_chk_hd hch) (fun H1 locs1 hP1 hD1 hS1 => kk _ _ _ h1 ad H1 locs1 cells slots ls (g2 H1 locs1 hP1 hD1 hS1) hl hc' hs')
    · cases h1
  · cases h1
end AMA
end
section
/-! a method's contract is the run of its code -/
/-- the run of a method: its code, its pool, its handlers -/
def am_fn (T : am_I) (X : am_X) (nL : Nat) (rt : Option FieldType) (rs : Nat → Option (Nat × (Nat → Int32))) (hs : am_Hs) (kp : am_Kp) (N : Nat) (b : Nat × Nat) : List am_V → am_H → Option am_O := fun as h => if (as.map am_cat).sum ≤ nL then am_lp T X nL rt rs hs kp N 0 (am_args 0 as) [] h b else none
theorem am_args_t (ad : am_A) : ∀ (as : List am_V) (i : Nat), (am_args i as).map (fun q => (q.1, am_t ad q.2)) = lv_args i (as.map (am_t ad))
  | [], _ => rfl
  | v :: as, i => by
    show (i, am_t ad v) :: (am_args _ as).map _ = (i, am_t ad v) :: lv_args _ (as.map (am_t ad))
    rw [am_args_t ad as, am_t_cat]
theorem am_sl_len : ∀ (vs : List Value), (lg_sl vs).length = (vs.map fun v => v.category).sum
  | [] => rfl
  | v :: vs => by
    show ((if v.category = 2 then [Slot.val v, Slot.second] else [Slot.val v]) ++ lg_sl vs).length = v.category + (vs.map fun v => v.category).sum
    rw [List.length_append, am_sl_len vs]
    rcases lv_cat v with h | h
    · rw [if_neg (by omega), h]; rfl
    · rw [if_pos h, h]; rfl
/-- what a class's pool must stand for in a method's body -/
def am_ok (cl : List vw_C) (rs : Nat → Option (Nat × (Nat → Int32))) (zs : am_Zt) (l : Launch) (y : MethodName) (cc : ByteArray) (nL : Nat) (Ts : List Cond) (rm : Room) (hs : am_Hs) (X : am_X) : Prop :=
  ∀ (p : Program) (e : Env) (s : State) (m : MethodId) (args : Array Value) (below : List Frame) (meth : Method) (c : Code) (D : va_G) (tc : Nat → ClassId) (A : Nat → Prop) (n0 : Nat) (ad0 : am_A), am_Cx p l rm s m args meth c cc nL Ts y.cls D cl tc A rs zs hs ad0 → meth.name = y.name → ∀ key φ, X.lookup key = some φ → am_op p l e rm s m args below meth c D cl tc A nL n0 ad0 cc key φ
theorem am_body {cl : List vw_C} {rs : Nat → Option (Nat × (Nat → Int32))} {zs : am_Zt} {l : Launch} {y : MethodName} {cc : ByteArray} {nL : Nat} {rt : Option FieldType} {ws : List Cond} {rm : Room} {hs : am_Hs} {X : am_X} {T : am_I} {kp : am_Kp} {N : Nat} (hl : l.stackTraces = false) (hT : am_chk cc T = true) (hX : am_ok cl rs zs l y cc nL ws rm hs X) (hhk : ∀ (s : State) (args : Array Value) (ra : Nat → Nat) (A : Nat → Prop), (∀ w ∈ ws, w.before args s = true) → am_zs zs ra A s s.heap → am_hk s args y.cls hs)
    {D : va_G} {tc : Nat → ClassId} {ad : am_A} {as : List am_V} {h : am_H} {sz : Nat} {out : am_O} (hF : am_fn T X nL rt rs hs kp N (rm.cells, rm.slots) as h = some out) {p : Program} {e : Env} {s : State} {m : MethodId} {args : Array Value} {below : List Frame} {meth : Method} {c : Code} {s₁ : State} (B : BodyLoose p l y (headSpec ws rm) cc nL rt e s m args below meth c s₁) (hml : c.maxLocals = nL) (htb : c.exceptionTable.toList = tableOf (am_tb hs)) (hv : am_Pc D cl tc rs zs ad as h sz args s) :
    W p l e (headSpec ws rm).room s m args below meth c s.heap [] 0 0 (vx_MQ below (am_Qc D cl tc (va_A (am_ws tc ad 0 h) sz) h.length ad out) (am_XC D cl tc (va_A (am_ws tc ad 0 h) sz) h.length ad out) args s rm.cells rm.slots (va_A (am_ws tc ad 0 h) sz)) (entryFrame m args nL) := by
  obtain ⟨rfl, hsz, hP, hK, hD0, hro, hz⟩ := hv
  have hx := B.exec
  have hb := B.bytes
  have hr := B.returns
  have hts := atoms_spec (ws := ws) B.pre
  have hown : s.vm.findClass y.cls = some m.cls := findClass_of_methodNamed B.named
  have hlocks := B.notSynchronized
  have hin : meth.name = y.name := (name_of_methodNamed B.named B.method).1
  subst hsz
  have hA : ∀ q, s.heap.size ≤ q → va_A (am_ws tc ad 0 h) s.heap.size q := fun q h => Or.inr h
  have C : am_Cx p l rm s m (as.map (am_t ad)).toArray meth c cc nL ws y.cls D cl tc (va_A (am_ws tc ad 0 h) s.heap.size) rs zs hs ad := ⟨⟨⟨hx, hb, hml, hown, hts⟩, hK, hA, hro⟩, hz, hlocks, htb, hl⟩
  unfold am_fn at hF
  obtain ⟨hlen, hF⟩ := am_if hF
  have hlv := lv_entry (as.map (am_t ad)) (n := nL) (by rw [am_sl_len, am_catsum]; exact hlen)
  rw [lg_entry_eq]
  exact am_lp_ok C.1 hr hlocks htb (hhk s _ _ _ hts hz) hT (hX p e s m _ below meth c D tc _ h.length ad C hin) N 0 (am_args 0 as) [] h (rm.cells, rm.slots) hF ad s.heap [] 0 0 _ ⟨Nat.le_refl _, fun _ _ => rfl, rfl, hP, hD0.self, va_S.rf⟩ (by rw [am_args_t]; exact hlv) (by show 0 + _ ≤ _; exact Nat.le_of_eq (Nat.zero_add _)) (by show 0 + _ ≤ _; exact Nat.le_of_eq (Nat.zero_add _))
theorem am_meth {cl : List vw_C} {rs : Nat → Option (Nat × (Nat → Int32))} {zs : am_Zt} {l : Launch} {y : MethodName} {cc : ByteArray} {nL : Nat} {rt : Option FieldType} {ws' : List Cond} {rm : Room} {X : am_X} {T : am_I} {kp : am_Kp} {N : Nat} (hl : l.stackTraces = false) (hy : plainName y.cls = true) (hT : am_chk cc T = true) (hX : am_ok cl rs zs l y cc nL (Cond.code y cc nL rt :: ws') rm [] X) : am_M cl rs zs l y (Cond.code y cc nL rt :: ws') rm (am_fn T X nL rt rs [] kp N (rm.cells, rm.slots)) := by
  intro D tc ad as h sz out hF
  refine vx_ofW (cc := cc) (maxL := nL) (ret := rt) hy rfl ?_
  intro p e s m args below meth c s₁ B hml hnt hv
  refine am_body hl hT hX (fun _ _ _ _ _ _ q hq => by cases hq) hF B hml ?_ hv
  cases he : c.exceptionTable.toList with
  | nil => rfl
  | cons x r => exact (hnt x (by rw [he]; exact List.mem_cons_self)).elim
theorem am_methH {cl : List vw_C} {rs : Nat → Option (Nat × (Nat → Int32))} {zs : am_Zt} {l : Launch} {y : MethodName} {cc : ByteArray} {nL : Nat} {rt : Option FieldType} {ws' : List Cond} {rm : Room} {hs : am_Hs} {X : am_X} {T : am_I} {kp : am_Kp} {N : Nat} (hl : l.stackTraces = false) (hy : plainName y.cls = true) (hT : am_chk cc T = true) (hX : am_ok cl rs zs l y cc nL (Cond.codeWith y cc nL rt (am_tb hs) :: ws') rm hs X) (hk : ∀ q ∈ hs, q.2.2.2.1 ≠ 0 ∧ q.2.2.2.2 < 5 ∧ Cond.classLink y.cls q.2.2.2.1 (am_xn q.2.2.2.2) ∈ ws' ∧ Cond.castable (am_xn q.2.2.2.2) (am_xn q.2.2.2.2) ∈ zs.2) : am_M cl rs zs l y (Cond.codeWith y cc nL rt (am_tb hs) :: ws') rm (am_fn T X nL rt rs hs kp N (rm.cells, rm.slots)) := by
  intro D tc ad as h sz out hF
  refine vx_ofWH (cc := cc) (maxL := nL) (ret := rt) (hh := am_tb hs) hy rfl ?_
  intro p e s m args below meth c s₁ B hml hv
  refine am_body hl hT hX (fun s' args' ra A' hts hz q hq => ?_) hF B hml (vx_table (x := y) B (atoms_spec (ws := Cond.codeWith y cc nL rt (am_tb hs) :: ws') B.pre _ List.mem_cons_self)) hv
  obtain ⟨k1, k2, k3, k4⟩ := hk q hq
  exact ⟨k1, hts _ (List.mem_cons_of_mem _ k3), va_Nw.use rfl (hz.2.2.1 _ k4).2, fun x h1 h2 => hz.1 x _ h1 k2 h2⟩
end
section
/-- the good words of the tables: every method's words -/
def lw_good : List Cond := lw_tbl.filter goodWord
theorem am_in1 {w : Cond} (j : Nat) (h : tables_1_1[j]? = some w) (g : goodWord w = true) : w ∈ lw_good := List.mem_filter.mpr ⟨List.mem_append_right _ (List.mem_append_left _ (List.mem_of_getElem? h)), g⟩
theorem am_in2 {w : Cond} (j : Nat) (h : tables_1_2[j]? = some w) (g : goodWord w = true) : w ∈ lw_good := List.mem_filter.mpr ⟨List.mem_append_right _ (List.mem_append_right _ (List.mem_append_left _ (List.mem_of_getElem? h))), g⟩
theorem am_in3 {w : Cond} (j : Nat) (h : tables_1_3[j]? = some w) (g : goodWord w = true) : w ∈ lw_good := List.mem_filter.mpr ⟨List.mem_append_right _ (List.mem_append_right _ (List.mem_append_right _ (List.mem_of_getElem? h))), g⟩
theorem am_inS {q : MethodName × Nat} (h : q ∈ lw_privs) : Cond.selects q.1.cls q.1 q.1 ∈ lw_good := List.mem_filter.mpr ⟨List.mem_append_left _ (List.mem_map.mpr ⟨q, h, rfl⟩), rfl⟩
theorem am_gd {c0 c1 : Cond} (h : c1 ∈ lw_good) : GoodIn (c0 :: lw_good) (c1 :: lw_good) := by
  intro w hw
  have h9 : w ∈ lw_good := by
    rcases List.mem_cons.mp hw with rfl | h1
    · exact h
    · exact h1
  exact ⟨List.mem_cons_of_mem _ h9, good_of_word (List.mem_filter.mp h9).2⟩
theorem am_tl {c0 w : Cond} (h : w ∈ lw_good) : w ∈ c0 :: lw_good := List.mem_cons_of_mem _ h
set_option maxRecDepth 20000 in
theorem w_1_0 : (Jvm.Cond.initialized "PagingKernelLaw") ∈ lw_good := am_in1 0 rfl rfl
set_option maxRecDepth 20000 in
theorem w_1_1 : (Jvm.Cond.initialized "PagingKernel") ∈ lw_good := am_in1 1 rfl rfl
set_option maxRecDepth 20000 in
theorem w_1_2 : (Jvm.Cond.initialized "PagingKernel$Memory") ∈ lw_good := am_in1 2 rfl rfl
set_option maxRecDepth 20000 in
theorem w_1_3 : (Jvm.Cond.initialized "java/lang/Math") ∈ lw_good := am_in1 3 rfl rfl
set_option maxRecDepth 20000 in
theorem w_1_4 : (Jvm.Cond.initialized "java/util/Arrays") ∈ lw_good := am_in1 4 rfl rfl
set_option maxRecDepth 20000 in
theorem w_1_5 : (Jvm.Cond.initialized "PagingKernelModel") ∈ lw_good := am_in1 5 rfl rfl
set_option maxRecDepth 20000 in
theorem w_1_6 : (Jvm.Cond.initialized "java/lang/Throwable") ∈ lw_good := am_in1 6 rfl rfl
set_option maxRecDepth 20000 in
theorem w_1_9 : (Jvm.Cond.initialized "java/lang/IllegalArgumentException") ∈ lw_good := am_in1 9 rfl rfl
set_option maxRecDepth 20000 in
theorem w_1_10 : (Jvm.Cond.initialized "java/util/NoSuchElementException") ∈ lw_good := am_in1 10 rfl rfl
set_option maxRecDepth 20000 in
theorem w_1_11 : (Jvm.Cond.initialized "java/lang/UnsupportedOperationException") ∈ lw_good := am_in1 11 rfl rfl
set_option maxRecDepth 20000 in
theorem w_1_12 : (Jvm.Cond.initialized "java/lang/IllegalStateException") ∈ lw_good := am_in1 12 rfl rfl
set_option maxRecDepth 20000 in
theorem w_1_13 : (Jvm.Cond.initialized "java/lang/IndexOutOfBoundsException") ∈ lw_good := am_in1 13 rfl rfl
set_option maxRecDepth 20000 in
theorem w_1_14 : (Jvm.Cond.initialized "java/lang/System") ∈ lw_good := am_in1 14 rfl rfl
set_option maxRecDepth 20000 in
theorem w_1_15 : (Jvm.Cond.classLink "PagingKernelLaw" (8 : Nat) "PagingKernel") ∈ lw_good := am_in1 15 rfl rfl
set_option maxRecDepth 20000 in
theorem w_1_16 : (Jvm.Cond.instantiable "PagingKernel" (8 : Nat)) ∈ lw_good := am_in1 16 rfl rfl
set_option maxRecDepth 20000 in
theorem w_1_17 : (Jvm.Cond.methodLink "PagingKernelLaw" (67 : Nat) ({ cls := "PagingKernel", name := "<init>", desc := "(II)V" } : Jvm.MethodName)) ∈ lw_good := am_in1 17 rfl rfl
set_option maxRecDepth 20000 in
theorem w_1_18 : (Jvm.Cond.instanceMethod ({ cls := "PagingKernel", name := "<init>", desc := "(II)V" } : Jvm.MethodName)) ∈ lw_good := am_in1 18 rfl rfl
set_option maxRecDepth 20000 in
theorem w_1_19 : (Jvm.Cond.code ({ cls := "PagingKernel", name := "<init>", desc := "(II)V" } : Jvm.MethodName) prog_1_method_1_code (4 : Nat) (Option.none : Option Jvm.ClassFile.FieldType)) ∈ lw_good := am_in1 19 rfl rfl
set_option maxRecDepth 20000 in
theorem w_1_20 : (Jvm.Cond.methodLink "PagingKernel" (3 : Nat) ({ cls := "java/lang/Object", name := "<init>", desc := "()V" } : Jvm.MethodName)) ∈ lw_good := am_in1 20 rfl rfl
set_option maxRecDepth 20000 in
theorem w_1_21 : (Jvm.Cond.instanceMethod ({ cls := "java/lang/Object", name := "<init>", desc := "()V" } : Jvm.MethodName)) ∈ lw_good := am_in1 21 rfl rfl
set_option maxRecDepth 20000 in
theorem w_1_22 : (Jvm.Cond.code ({ cls := "java/lang/Object", name := "<init>", desc := "()V" } : Jvm.MethodName) object_method_1_code (1 : Nat) (Option.none : Option Jvm.ClassFile.FieldType)) ∈ lw_good := am_in1 22 rfl rfl
set_option maxRecDepth 20000 in
theorem w_1_23 : (Jvm.Cond.classLink "PagingKernel" (28 : Nat) "[[I") ∈ lw_good := am_in1 23 rfl rfl
set_option maxRecDepth 20000 in
theorem w_1_25 : (Jvm.Cond.classLink "PagingKernel" (33 : Nat) "PagingKernel$Memory") ∈ lw_good := am_in1 25 rfl rfl
set_option maxRecDepth 20000 in
theorem w_1_26 : (Jvm.Cond.instantiable "PagingKernel$Memory" (10 : Nat)) ∈ lw_good := am_in1 26 rfl rfl
set_option maxRecDepth 20000 in
theorem w_1_27 : (Jvm.Cond.methodLink "PagingKernel" (35 : Nat) ({ cls := "PagingKernel", name := "clamp", desc := "(III)I" } : Jvm.MethodName)) ∈ lw_good := am_in1 27 rfl rfl
set_option maxRecDepth 20000 in
theorem w_1_28 : (Jvm.Cond.static ({ cls := "PagingKernel", name := "clamp", desc := "(III)I" } : Jvm.MethodName)) ∈ lw_good := am_in1 28 rfl rfl
set_option maxRecDepth 20000 in
theorem w_1_29 : (Jvm.Cond.code ({ cls := "PagingKernel", name := "clamp", desc := "(III)I" } : Jvm.MethodName) prog_1_method_15_code (3 : Nat) (Option.some Jvm.ClassFile.FieldType.int)) ∈ lw_good := am_in1 29 rfl rfl
set_option maxRecDepth 20000 in
theorem w_1_30 : (Jvm.Cond.methodLink "PagingKernel" (153 : Nat) ({ cls := "java/lang/Math", name := "min", desc := "(II)I" } : Jvm.MethodName)) ∈ lw_good := am_in1 30 rfl rfl
set_option maxRecDepth 20000 in
theorem w_1_31 : (Jvm.Cond.static ({ cls := "java/lang/Math", name := "min", desc := "(II)I" } : Jvm.MethodName)) ∈ lw_good := am_in1 31 rfl rfl
set_option maxRecDepth 20000 in
theorem w_1_32 : (Jvm.Cond.code ({ cls := "java/lang/Math", name := "min", desc := "(II)I" } : Jvm.MethodName) prog_9_method_69_code (2 : Nat) (Option.some Jvm.ClassFile.FieldType.int)) ∈ lw_good := am_in1 32 rfl rfl
set_option maxRecDepth 20000 in
theorem w_1_33 : (Jvm.Cond.methodLink "PagingKernel" (158 : Nat) ({ cls := "java/lang/Math", name := "max", desc := "(II)I" } : Jvm.MethodName)) ∈ lw_good := am_in1 33 rfl rfl
set_option maxRecDepth 20000 in
theorem w_1_34 : (Jvm.Cond.static ({ cls := "java/lang/Math", name := "max", desc := "(II)I" } : Jvm.MethodName)) ∈ lw_good := am_in1 34 rfl rfl
set_option maxRecDepth 20000 in
theorem w_1_35 : (Jvm.Cond.code ({ cls := "java/lang/Math", name := "max", desc := "(II)I" } : Jvm.MethodName) prog_9_method_65_code (2 : Nat) (Option.some Jvm.ClassFile.FieldType.int)) ∈ lw_good := am_in1 35 rfl rfl
set_option maxRecDepth 20000 in
theorem w_1_36 : (Jvm.Cond.methodLink "PagingKernel" (39 : Nat) ({ cls := "PagingKernel$Memory", name := "<init>", desc := "(II)V" } : Jvm.MethodName)) ∈ lw_good := am_in1 36 rfl rfl
set_option maxRecDepth 20000 in
theorem w_1_37 : (Jvm.Cond.instanceMethod ({ cls := "PagingKernel$Memory", name := "<init>", desc := "(II)V" } : Jvm.MethodName)) ∈ lw_good := am_in1 37 rfl rfl
set_option maxRecDepth 20000 in
theorem w_1_38 : (Jvm.Cond.code ({ cls := "PagingKernel$Memory", name := "<init>", desc := "(II)V" } : Jvm.MethodName) prog_2_method_1_code (5 : Nat) (Option.none : Option Jvm.ClassFile.FieldType)) ∈ lw_good := am_in1 38 rfl rfl
set_option maxRecDepth 20000 in
theorem w_1_39 : (Jvm.Cond.methodLink "PagingKernel$Memory" (5 : Nat) ({ cls := "java/lang/Object", name := "<init>", desc := "()V" } : Jvm.MethodName)) ∈ lw_good := am_in1 39 rfl rfl
set_option maxRecDepth 20000 in
theorem w_1_40 : (Jvm.Cond.methodLink "PagingKernel$Memory" (44 : Nat) ({ cls := "java/util/Arrays", name := "fill", desc := "([II)V" } : Jvm.MethodName)) ∈ lw_good := am_in1 40 rfl rfl
set_option maxRecDepth 20000 in
theorem w_1_41 : (Jvm.Cond.static ({ cls := "java/util/Arrays", name := "fill", desc := "([II)V" } : Jvm.MethodName)) ∈ lw_good := am_in1 41 rfl rfl
set_option maxRecDepth 20000 in
theorem w_1_42 : (Jvm.Cond.code ({ cls := "java/util/Arrays", name := "fill", desc := "([II)V" } : Jvm.MethodName) prog_14_method_103_code (4 : Nat) (Option.none : Option Jvm.ClassFile.FieldType)) ∈ lw_good := am_in1 42 rfl rfl
set_option maxRecDepth 20000 in
theorem w_1_43 : (Jvm.Cond.fieldLink "PagingKernel$Memory" (11 : Nat) "PagingKernel$Memory" "words" "[I") ∈ lw_good := am_in1 43 rfl rfl
set_option maxRecDepth 20000 in
theorem w_1_44 : (Jvm.Cond.fieldLink "PagingKernel$Memory" (15 : Nat) "PagingKernel$Memory" "users" "[I") ∈ lw_good := am_in1 44 rfl rfl
set_option maxRecDepth 20000 in
theorem w_1_45 : (Jvm.Cond.fieldLink "PagingKernel$Memory" (18 : Nat) "PagingKernel$Memory" "home" "[I") ∈ lw_good := am_in1 45 rfl rfl
set_option maxRecDepth 20000 in
theorem w_1_46 : (Jvm.Cond.fieldLink "PagingKernel$Memory" (34 : Nat) "PagingKernel$Memory" "pageInFrame" "[I") ∈ lw_good := am_in1 46 rfl rfl
set_option maxRecDepth 20000 in
theorem w_1_47 : (Jvm.Cond.fieldLink "PagingKernel$Memory" (37 : Nat) "PagingKernel$Memory" "marked" "[Z") ∈ lw_good := am_in1 47 rfl rfl
set_option maxRecDepth 20000 in
theorem w_1_48 : (Jvm.Cond.fieldLink "PagingKernel$Memory" (41 : Nat) "PagingKernel$Memory" "pageInSlot" "[I") ∈ lw_good := am_in1 48 rfl rfl
set_option maxRecDepth 20000 in
theorem w_1_49 : (Jvm.Cond.fieldLink "PagingKernel$Memory" (21 : Nat) "PagingKernel$Memory" "hand" "I") ∈ lw_good := am_in1 49 rfl rfl
set_option maxRecDepth 20000 in
theorem w_1_51 : (Jvm.Cond.fieldLink "PagingKernel$Memory" (25 : Nat) "PagingKernel$Memory" "fills" "I") ∈ lw_good := am_in1 51 rfl rfl
set_option maxRecDepth 20000 in
theorem w_1_53 : (Jvm.Cond.fieldLink "PagingKernel$Memory" (28 : Nat) "PagingKernel$Memory" "copies" "I") ∈ lw_good := am_in1 53 rfl rfl
set_option maxRecDepth 20000 in
theorem w_1_55 : (Jvm.Cond.fieldLink "PagingKernel$Memory" (31 : Nat) "PagingKernel$Memory" "sentOut" "I") ∈ lw_good := am_in1 55 rfl rfl
set_option maxRecDepth 20000 in
theorem w_1_57 : (Jvm.Cond.laysFinal "PagingKernel$Memory" "PagingKernel$Memory" "words" "[I") ∈ lw_good := am_in1 57 rfl rfl
set_option maxRecDepth 20000 in
theorem w_1_59 : (Jvm.Cond.laysFinal "PagingKernel$Memory" "PagingKernel$Memory" "users" "[I") ∈ lw_good := am_in1 59 rfl rfl
set_option maxRecDepth 20000 in
theorem w_1_61 : (Jvm.Cond.laysFinal "PagingKernel$Memory" "PagingKernel$Memory" "home" "[I") ∈ lw_good := am_in1 61 rfl rfl
set_option maxRecDepth 20000 in
theorem w_1_63 : (Jvm.Cond.laysFinal "PagingKernel$Memory" "PagingKernel$Memory" "pageInFrame" "[I") ∈ lw_good := am_in1 63 rfl rfl
set_option maxRecDepth 20000 in
theorem w_1_65 : (Jvm.Cond.laysFinal "PagingKernel$Memory" "PagingKernel$Memory" "marked" "[Z") ∈ lw_good := am_in1 65 rfl rfl
set_option maxRecDepth 20000 in
theorem w_1_67 : (Jvm.Cond.laysFinal "PagingKernel$Memory" "PagingKernel$Memory" "pageInSlot" "[I") ∈ lw_good := am_in1 67 rfl rfl
set_option maxRecDepth 20000 in
theorem w_1_69 : (Jvm.Cond.lays "PagingKernel$Memory" "PagingKernel$Memory" "hand" "I") ∈ lw_good := am_in1 69 rfl rfl
set_option maxRecDepth 20000 in
theorem w_1_71 : (Jvm.Cond.lays "PagingKernel$Memory" "PagingKernel$Memory" "fills" "I") ∈ lw_good := am_in1 71 rfl rfl
set_option maxRecDepth 20000 in
theorem w_1_73 : (Jvm.Cond.lays "PagingKernel$Memory" "PagingKernel$Memory" "copies" "I") ∈ lw_good := am_in1 73 rfl rfl
set_option maxRecDepth 20000 in
theorem w_1_75 : (Jvm.Cond.lays "PagingKernel$Memory" "PagingKernel$Memory" "sentOut" "I") ∈ lw_good := am_in1 75 rfl rfl
set_option maxRecDepth 20000 in
theorem w_1_78 : (Jvm.Cond.arrayClass Jvm.ClassFile.FieldType.int) ∈ lw_good := am_in1 78 rfl rfl
set_option maxRecDepth 20000 in
theorem w_1_79 : (Jvm.Cond.arrayClass Jvm.ClassFile.FieldType.boolean) ∈ lw_good := am_in1 79 rfl rfl
set_option maxRecDepth 20000 in
theorem w_1_80 : (Jvm.Cond.methodLink "PagingKernel" (46 : Nat) ({ cls := "java/util/Arrays", name := "fill", desc := "([II)V" } : Jvm.MethodName)) ∈ lw_good := am_in1 80 rfl rfl
set_option maxRecDepth 20000 in
theorem w_1_81 : (Jvm.Cond.methodLink "PagingKernel" (52 : Nat) ({ cls := "PagingKernel", name := "startProgram", desc := "(II)V" } : Jvm.MethodName)) ∈ lw_good := am_in1 81 rfl rfl
set_option maxRecDepth 20000 in
theorem w_1_83 : (Jvm.Cond.instanceMethod ({ cls := "PagingKernel", name := "startProgram", desc := "(II)V" } : Jvm.MethodName)) ∈ lw_good := am_in1 83 rfl rfl
set_option maxRecDepth 20000 in
theorem w_1_84 : (Jvm.Cond.code ({ cls := "PagingKernel", name := "startProgram", desc := "(II)V" } : Jvm.MethodName) prog_1_method_21_code (4 : Nat) (Option.none : Option Jvm.ClassFile.FieldType)) ∈ lw_good := am_in1 84 rfl rfl
set_option maxRecDepth 20000 in
theorem w_1_85 : (Jvm.Cond.methodLink "PagingKernel" (170 : Nat) ({ cls := "PagingKernel$Memory", name := "textPage", desc := "(II)I" } : Jvm.MethodName)) ∈ lw_good := am_in1 85 rfl rfl
set_option maxRecDepth 20000 in
theorem w_1_86 : (Jvm.Cond.static ({ cls := "PagingKernel$Memory", name := "textPage", desc := "(II)I" } : Jvm.MethodName)) ∈ lw_good := am_in1 86 rfl rfl
set_option maxRecDepth 20000 in
theorem w_1_87 : (Jvm.Cond.code ({ cls := "PagingKernel$Memory", name := "textPage", desc := "(II)I" } : Jvm.MethodName) prog_2_method_2_code (2 : Nat) (Option.some Jvm.ClassFile.FieldType.int)) ∈ lw_good := am_in1 87 rfl rfl
set_option maxRecDepth 20000 in
theorem w_1_88 : (Jvm.Cond.methodLink "PagingKernel" (173 : Nat) ({ cls := "PagingKernel$Memory", name := "join", desc := "(I)V" } : Jvm.MethodName)) ∈ lw_good := am_in1 88 rfl rfl
set_option maxRecDepth 20000 in
theorem w_1_89 : (Jvm.Cond.instanceMethod ({ cls := "PagingKernel$Memory", name := "join", desc := "(I)V" } : Jvm.MethodName)) ∈ lw_good := am_in1 89 rfl rfl
set_option maxRecDepth 20000 in
theorem w_1_90 : (Jvm.Cond.selects "PagingKernel$Memory" ({ cls := "PagingKernel$Memory", name := "join", desc := "(I)V" } : Jvm.MethodName) ({ cls := "PagingKernel$Memory", name := "join", desc := "(I)V" } : Jvm.MethodName)) ∈ lw_good := am_in1 90 rfl rfl
set_option maxRecDepth 20000 in
theorem w_1_91 : (Jvm.Cond.code ({ cls := "PagingKernel$Memory", name := "join", desc := "(I)V" } : Jvm.MethodName) prog_2_method_11_code (2 : Nat) (Option.none : Option Jvm.ClassFile.FieldType)) ∈ lw_good := am_in1 91 rfl rfl
set_option maxRecDepth 20000 in
theorem w_1_92 : (Jvm.Cond.methodLink "PagingKernel" (76 : Nat) ({ cls := "PagingKernel", name := "leavePages", desc := "(III)V" } : Jvm.MethodName)) ∈ lw_good := am_in1 92 rfl rfl
set_option maxRecDepth 20000 in
theorem w_1_94 : (Jvm.Cond.instanceMethod ({ cls := "PagingKernel", name := "leavePages", desc := "(III)V" } : Jvm.MethodName)) ∈ lw_good := am_in1 94 rfl rfl
set_option maxRecDepth 20000 in
theorem w_1_95 : (Jvm.Cond.code ({ cls := "PagingKernel", name := "leavePages", desc := "(III)V" } : Jvm.MethodName) prog_1_method_23_code (6 : Nat) (Option.none : Option Jvm.ClassFile.FieldType)) ∈ lw_good := am_in1 95 rfl rfl
set_option maxRecDepth 20000 in
theorem w_1_96 : (Jvm.Cond.methodLink "PagingKernel" (182 : Nat) ({ cls := "PagingKernel$Memory", name := "leave", desc := "(I)V" } : Jvm.MethodName)) ∈ lw_good := am_in1 96 rfl rfl
set_option maxRecDepth 20000 in
theorem w_1_97 : (Jvm.Cond.instanceMethod ({ cls := "PagingKernel$Memory", name := "leave", desc := "(I)V" } : Jvm.MethodName)) ∈ lw_good := am_in1 97 rfl rfl
set_option maxRecDepth 20000 in
theorem w_1_98 : (Jvm.Cond.selects "PagingKernel$Memory" ({ cls := "PagingKernel$Memory", name := "leave", desc := "(I)V" } : Jvm.MethodName) ({ cls := "PagingKernel$Memory", name := "leave", desc := "(I)V" } : Jvm.MethodName)) ∈ lw_good := am_in1 98 rfl rfl
set_option maxRecDepth 20000 in
theorem w_1_99 : (Jvm.Cond.code ({ cls := "PagingKernel$Memory", name := "leave", desc := "(I)V" } : Jvm.MethodName) prog_2_method_12_code (2 : Nat) (Option.none : Option Jvm.ClassFile.FieldType)) ∈ lw_good := am_in1 99 rfl rfl
set_option maxRecDepth 20000 in
theorem w_1_100 : (Jvm.Cond.methodLink "PagingKernel$Memory" (54 : Nat) ({ cls := "PagingKernel$Memory", name := "vacate", desc := "(I)V" } : Jvm.MethodName)) ∈ lw_good := am_in1 100 rfl rfl
set_option maxRecDepth 20000 in
theorem w_1_102 : (Jvm.Cond.instanceMethod ({ cls := "PagingKernel$Memory", name := "vacate", desc := "(I)V" } : Jvm.MethodName)) ∈ lw_good := am_in1 102 rfl rfl
set_option maxRecDepth 20000 in
theorem w_1_103 : (Jvm.Cond.code ({ cls := "PagingKernel$Memory", name := "vacate", desc := "(I)V" } : Jvm.MethodName) prog_2_method_23_code (2 : Nat) (Option.none : Option Jvm.ClassFile.FieldType)) ∈ lw_good := am_in1 103 rfl rfl
set_option maxRecDepth 20000 in
theorem w_1_104 : (Jvm.Cond.methodLink "PagingKernel$Memory" (58 : Nat) ({ cls := "PagingKernel$Memory", name := "isIn", desc := "(I)Z" } : Jvm.MethodName)) ∈ lw_good := am_in1 104 rfl rfl
set_option maxRecDepth 20000 in
theorem w_1_106 : (Jvm.Cond.instanceMethod ({ cls := "PagingKernel$Memory", name := "isIn", desc := "(I)Z" } : Jvm.MethodName)) ∈ lw_good := am_in1 106 rfl rfl
set_option maxRecDepth 20000 in
theorem w_1_107 : (Jvm.Cond.code ({ cls := "PagingKernel$Memory", name := "isIn", desc := "(I)Z" } : Jvm.MethodName) prog_2_method_18_code (2 : Nat) (Option.some Jvm.ClassFile.FieldType.boolean)) ∈ lw_good := am_in1 107 rfl rfl
set_option maxRecDepth 20000 in
theorem w_1_108 : (Jvm.Cond.fieldLink "PagingKernel" (176 : Nat) "PagingKernel" "DATA_AT_START" "[I") ∈ lw_good := am_in1 108 rfl rfl
set_option maxRecDepth 20000 in
theorem w_1_110 : (Jvm.Cond.methodLink "PagingKernel" (93 : Nat) ({ cls := "PagingKernel", name := "addPages", desc := "(III)V" } : Jvm.MethodName)) ∈ lw_good := am_in1 110 rfl rfl
set_option maxRecDepth 20000 in
theorem w_1_112 : (Jvm.Cond.instanceMethod ({ cls := "PagingKernel", name := "addPages", desc := "(III)V" } : Jvm.MethodName)) ∈ lw_good := am_in1 112 rfl rfl
set_option maxRecDepth 20000 in
theorem w_1_113 : (Jvm.Cond.code ({ cls := "PagingKernel", name := "addPages", desc := "(III)V" } : Jvm.MethodName) prog_1_method_22_code (5 : Nat) (Option.none : Option Jvm.ClassFile.FieldType)) ∈ lw_good := am_in1 113 rfl rfl
set_option maxRecDepth 20000 in
theorem w_1_114 : (Jvm.Cond.methodLink "PagingKernel" (179 : Nat) ({ cls := "PagingKernel$Memory", name := "newPage", desc := "()I" } : Jvm.MethodName)) ∈ lw_good := am_in1 114 rfl rfl
set_option maxRecDepth 20000 in
theorem w_1_115 : (Jvm.Cond.instanceMethod ({ cls := "PagingKernel$Memory", name := "newPage", desc := "()I" } : Jvm.MethodName)) ∈ lw_good := am_in1 115 rfl rfl
set_option maxRecDepth 20000 in
theorem w_1_116 : (Jvm.Cond.selects "PagingKernel$Memory" ({ cls := "PagingKernel$Memory", name := "newPage", desc := "()I" } : Jvm.MethodName) ({ cls := "PagingKernel$Memory", name := "newPage", desc := "()I" } : Jvm.MethodName)) ∈ lw_good := am_in1 116 rfl rfl
set_option maxRecDepth 20000 in
theorem w_1_117 : (Jvm.Cond.code ({ cls := "PagingKernel$Memory", name := "newPage", desc := "()I" } : Jvm.MethodName) prog_2_method_10_code (3 : Nat) (Option.some Jvm.ClassFile.FieldType.int)) ∈ lw_good := am_in1 117 rfl rfl
set_option maxRecDepth 20000 in
theorem w_1_118 : (Jvm.Cond.fieldLink "PagingKernel" (42 : Nat) "PagingKernel" "memory" "LPagingKernel$Memory;") ∈ lw_good := am_in1 118 rfl rfl
set_option maxRecDepth 20000 in
theorem w_1_119 : (Jvm.Cond.fieldLink "PagingKernel" (9 : Nat) "PagingKernel" "state" "[I") ∈ lw_good := am_in1 119 rfl rfl
set_option maxRecDepth 20000 in
theorem w_1_120 : (Jvm.Cond.fieldLink "PagingKernel" (13 : Nat) "PagingKernel" "program" "[I") ∈ lw_good := am_in1 120 rfl rfl
set_option maxRecDepth 20000 in
theorem w_1_121 : (Jvm.Cond.fieldLink "PagingKernel" (16 : Nat) "PagingKernel" "parent" "[I") ∈ lw_good := am_in1 121 rfl rfl
set_option maxRecDepth 20000 in
theorem w_1_122 : (Jvm.Cond.fieldLink "PagingKernel" (19 : Nat) "PagingKernel" "exitCode" "[I") ∈ lw_good := am_in1 122 rfl rfl
set_option maxRecDepth 20000 in
theorem w_1_123 : (Jvm.Cond.fieldLink "PagingKernel" (22 : Nat) "PagingKernel" "dataPages" "[I") ∈ lw_good := am_in1 123 rfl rfl
set_option maxRecDepth 20000 in
theorem w_1_124 : (Jvm.Cond.fieldLink "PagingKernel" (25 : Nat) "PagingKernel" "stackPages" "[I") ∈ lw_good := am_in1 124 rfl rfl
set_option maxRecDepth 20000 in
theorem w_1_125 : (Jvm.Cond.fieldLink "PagingKernel" (30 : Nat) "PagingKernel" "pageAt" "[[I") ∈ lw_good := am_in1 125 rfl rfl
set_option maxRecDepth 20000 in
theorem w_1_126 : (Jvm.Cond.laysFinal "PagingKernel" "PagingKernel" "memory" "LPagingKernel$Memory;") ∈ lw_good := am_in1 126 rfl rfl
set_option maxRecDepth 20000 in
theorem w_1_128 : (Jvm.Cond.laysFinal "PagingKernel" "PagingKernel" "state" "[I") ∈ lw_good := am_in1 128 rfl rfl
set_option maxRecDepth 20000 in
theorem w_1_130 : (Jvm.Cond.laysFinal "PagingKernel" "PagingKernel" "program" "[I") ∈ lw_good := am_in1 130 rfl rfl
set_option maxRecDepth 20000 in
theorem w_1_132 : (Jvm.Cond.laysFinal "PagingKernel" "PagingKernel" "parent" "[I") ∈ lw_good := am_in1 132 rfl rfl
set_option maxRecDepth 20000 in
theorem w_1_134 : (Jvm.Cond.laysFinal "PagingKernel" "PagingKernel" "exitCode" "[I") ∈ lw_good := am_in1 134 rfl rfl
set_option maxRecDepth 20000 in
theorem w_1_136 : (Jvm.Cond.laysFinal "PagingKernel" "PagingKernel" "dataPages" "[I") ∈ lw_good := am_in1 136 rfl rfl
set_option maxRecDepth 20000 in
theorem w_1_138 : (Jvm.Cond.laysFinal "PagingKernel" "PagingKernel" "stackPages" "[I") ∈ lw_good := am_in1 138 rfl rfl
set_option maxRecDepth 20000 in
theorem w_1_140 : (Jvm.Cond.laysFinal "PagingKernel" "PagingKernel" "pageAt" "[[I") ∈ lw_good := am_in1 140 rfl rfl
set_option maxRecDepth 20000 in
theorem w_1_143 : (Jvm.Cond.methodLink "PagingKernelLaw" (61 : Nat) ({ cls := "PagingKernelLaw", name := "cell", desc := "([II)I" } : Jvm.MethodName)) ∈ lw_good := am_in1 143 rfl rfl
set_option maxRecDepth 20000 in
theorem w_1_144 : (Jvm.Cond.static ({ cls := "PagingKernelLaw", name := "cell", desc := "([II)I" } : Jvm.MethodName)) ∈ lw_good := am_in1 144 rfl rfl
set_option maxRecDepth 20000 in
theorem w_1_145 : (Jvm.Cond.code ({ cls := "PagingKernelLaw", name := "cell", desc := "([II)I" } : Jvm.MethodName) method_2_code (2 : Nat) (Option.some Jvm.ClassFile.FieldType.int)) ∈ lw_good := am_in1 145 rfl rfl
set_option maxRecDepth 20000 in
theorem w_1_146 : (Jvm.Cond.methodLink "PagingKernelLaw" (73 : Nat) ({ cls := "PagingKernelLaw", name := "fork", desc := "(LPagingKernel;I[J)I" } : Jvm.MethodName)) ∈ lw_good := am_in1 146 rfl rfl
set_option maxRecDepth 20000 in
theorem w_1_147 : (Jvm.Cond.static ({ cls := "PagingKernelLaw", name := "fork", desc := "(LPagingKernel;I[J)I" } : Jvm.MethodName)) ∈ lw_good := am_in1 147 rfl rfl
set_option maxRecDepth 20000 in
theorem w_1_148 : (Jvm.Cond.codeWith ({ cls := "PagingKernelLaw", name := "fork", desc := "(LPagingKernel;I[J)I" } : Jvm.MethodName) method_3_code (4 : Nat) (Option.some Jvm.ClassFile.FieldType.int) [((0 : Nat), (9 : Nat), (12 : Nat), (13 : Nat)), ((0 : Nat), (9 : Nat), (15 : Nat), (15 : Nat)), ((0 : Nat), (9 : Nat), (18 : Nat), (17 : Nat))]) ∈ lw_good := am_in1 148 rfl rfl
set_option maxRecDepth 20000 in
theorem w_1_149 : (Jvm.Cond.classLink "PagingKernelLaw" (13 : Nat) "java/lang/IllegalArgumentException") ∈ lw_good := am_in1 149 rfl rfl
set_option maxRecDepth 20000 in
theorem w_1_150 : (Jvm.Cond.classLink "PagingKernelLaw" (15 : Nat) "java/util/NoSuchElementException") ∈ lw_good := am_in1 150 rfl rfl
set_option maxRecDepth 20000 in
theorem w_1_151 : (Jvm.Cond.classLink "PagingKernelLaw" (17 : Nat) "java/lang/UnsupportedOperationException") ∈ lw_good := am_in1 151 rfl rfl
set_option maxRecDepth 20000 in
theorem w_1_152 : (Jvm.Cond.methodLink "PagingKernelLaw" (7 : Nat) ({ cls := "PagingKernel", name := "fork", desc := "(I)I" } : Jvm.MethodName)) ∈ lw_good := am_in1 152 rfl rfl
set_option maxRecDepth 20000 in
theorem w_1_153 : (Jvm.Cond.instanceMethod ({ cls := "PagingKernel", name := "fork", desc := "(I)I" } : Jvm.MethodName)) ∈ lw_good := am_in1 153 rfl rfl
set_option maxRecDepth 20000 in
theorem w_1_154 : (Jvm.Cond.selects "PagingKernel" ({ cls := "PagingKernel", name := "fork", desc := "(I)I" } : Jvm.MethodName) ({ cls := "PagingKernel", name := "fork", desc := "(I)I" } : Jvm.MethodName)) ∈ lw_good := am_in1 154 rfl rfl
set_option maxRecDepth 20000 in
theorem w_1_155 : (Jvm.Cond.code ({ cls := "PagingKernel", name := "fork", desc := "(I)I" } : Jvm.MethodName) prog_1_method_2_code (3 : Nat) (Option.some Jvm.ClassFile.FieldType.int)) ∈ lw_good := am_in1 155 rfl rfl
set_option maxRecDepth 20000 in
theorem w_1_156 : (Jvm.Cond.methodLink "PagingKernel" (55 : Nat) ({ cls := "PagingKernel", name := "checkProcess", desc := "(I)V" } : Jvm.MethodName)) ∈ lw_good := am_in1 156 rfl rfl
set_option maxRecDepth 20000 in
theorem w_1_157 : (Jvm.Cond.static ({ cls := "PagingKernel", name := "checkProcess", desc := "(I)V" } : Jvm.MethodName)) ∈ lw_good := am_in1 157 rfl rfl
set_option maxRecDepth 20000 in
theorem w_1_158 : (Jvm.Cond.code ({ cls := "PagingKernel", name := "checkProcess", desc := "(I)V" } : Jvm.MethodName) prog_1_method_17_code (1 : Nat) (Option.none : Option Jvm.ClassFile.FieldType)) ∈ lw_good := am_in1 158 rfl rfl
set_option maxRecDepth 20000 in
theorem w_1_159 : (Jvm.Cond.methodLink "PagingKernel" (72 : Nat) ({ cls := "PagingKernel", name := "checkRange", desc := "(III)V" } : Jvm.MethodName)) ∈ lw_good := am_in1 159 rfl rfl
set_option maxRecDepth 20000 in
theorem w_1_160 : (Jvm.Cond.static ({ cls := "PagingKernel", name := "checkRange", desc := "(III)V" } : Jvm.MethodName)) ∈ lw_good := am_in1 160 rfl rfl
set_option maxRecDepth 20000 in
theorem w_1_161 : (Jvm.Cond.code ({ cls := "PagingKernel", name := "checkRange", desc := "(III)V" } : Jvm.MethodName) prog_1_method_16_code (3 : Nat) (Option.none : Option Jvm.ClassFile.FieldType)) ∈ lw_good := am_in1 161 rfl rfl
set_option maxRecDepth 20000 in
theorem w_1_162 : (Jvm.Cond.classLink "PagingKernel" (161 : Nat) "java/lang/IllegalArgumentException") ∈ lw_good := am_in1 162 rfl rfl
set_option maxRecDepth 20000 in
theorem w_1_163 : (Jvm.Cond.instantiable "java/lang/IllegalArgumentException" (6 : Nat)) ∈ lw_good := am_in1 163 rfl rfl
set_option maxRecDepth 20000 in
theorem w_1_171 : (Jvm.Cond.selects "java/lang/IllegalArgumentException" ({ cls := "java/lang/Throwable", name := "fillInStackTrace", desc := "(I)Ljava/lang/Throwable;" } : Jvm.MethodName) ({ cls := "java/lang/Throwable", name := "fillInStackTrace", desc := "(I)Ljava/lang/Throwable;" } : Jvm.MethodName)) ∈ lw_good := am_in1 171 rfl rfl
set_option maxRecDepth 20000 in
theorem w_1_172 : (Jvm.Cond.selects "java/lang/IllegalArgumentException" ({ cls := "java/lang/Throwable", name := "fillInStackTrace", desc := "()Ljava/lang/Throwable;" } : Jvm.MethodName) ({ cls := "java/lang/Throwable", name := "fillInStackTrace", desc := "()Ljava/lang/Throwable;" } : Jvm.MethodName)) ∈ lw_good := am_in1 172 rfl rfl
set_option maxRecDepth 20000 in
theorem w_1_173 : (Jvm.Cond.lays "java/lang/IllegalArgumentException" "java/lang/Throwable" "cause" "Ljava/lang/Throwable;") ∈ lw_good := am_in1 173 rfl rfl
set_option maxRecDepth 20000 in
theorem w_1_174 : (Jvm.Cond.lays "java/lang/Throwable" "java/lang/Throwable" "cause" "Ljava/lang/Throwable;") ∈ lw_good := am_in1 174 rfl rfl
set_option maxRecDepth 20000 in
theorem w_1_175 : (Jvm.Cond.lays "java/lang/IllegalArgumentException" "java/lang/Throwable" "stackTrace" "[Ljava/lang/StackTraceElement;") ∈ lw_good := am_in1 175 rfl rfl
set_option maxRecDepth 20000 in
theorem w_1_176 : (Jvm.Cond.lays "java/lang/Throwable" "java/lang/Throwable" "stackTrace" "[Ljava/lang/StackTraceElement;") ∈ lw_good := am_in1 176 rfl rfl
set_option maxRecDepth 20000 in
theorem w_1_177 : (Jvm.Cond.lays "java/lang/IllegalArgumentException" "java/lang/Throwable" "suppressedExceptions" "Ljava/util/List;") ∈ lw_good := am_in1 177 rfl rfl
set_option maxRecDepth 20000 in
theorem w_1_178 : (Jvm.Cond.lays "java/lang/Throwable" "java/lang/Throwable" "suppressedExceptions" "Ljava/util/List;") ∈ lw_good := am_in1 178 rfl rfl
set_option maxRecDepth 20000 in
theorem w_1_179 : (Jvm.Cond.lays "java/lang/IllegalArgumentException" "java/lang/Throwable" "detailMessage" "Ljava/lang/String;") ∈ lw_good := am_in1 179 rfl rfl
set_option maxRecDepth 20000 in
theorem w_1_180 : (Jvm.Cond.lays "java/lang/Throwable" "java/lang/Throwable" "detailMessage" "Ljava/lang/String;") ∈ lw_good := am_in1 180 rfl rfl
set_option maxRecDepth 20000 in
theorem w_1_181 : (Jvm.Cond.lays "java/lang/IllegalArgumentException" "java/lang/Throwable" "backtrace" "Ljava/lang/Object;") ∈ lw_good := am_in1 181 rfl rfl
set_option maxRecDepth 20000 in
theorem w_1_182 : (Jvm.Cond.lays "java/lang/Throwable" "java/lang/Throwable" "backtrace" "Ljava/lang/Object;") ∈ lw_good := am_in1 182 rfl rfl
set_option maxRecDepth 20000 in
theorem w_1_183 : (Jvm.Cond.fieldLink "java/lang/Throwable" (198 : Nat) "java/lang/Throwable" "backtrace" "Ljava/lang/Object;") ∈ lw_good := am_in1 183 rfl rfl
set_option maxRecDepth 20000 in
theorem w_1_184 : (Jvm.Cond.superclass "java/lang/Throwable" "java/lang/Object") ∈ lw_good := am_in1 184 rfl rfl
set_option maxRecDepth 20000 in
theorem w_1_185 : (Jvm.Cond.instanceMethod ({ cls := "java/lang/Throwable", name := "<init>", desc := "()V" } : Jvm.MethodName)) ∈ lw_good := am_in1 185 rfl rfl
set_option maxRecDepth 20000 in
theorem w_1_186 : (Jvm.Cond.code ({ cls := "java/lang/Throwable", name := "<init>", desc := "()V" } : Jvm.MethodName) prog_12_method_1_code (1 : Nat) (Option.none : Option Jvm.ClassFile.FieldType)) ∈ lw_good := am_in1 186 rfl rfl
set_option maxRecDepth 20000 in
theorem w_1_187 : (Jvm.Cond.methodLink "java/lang/Throwable" (1 : Nat) ({ cls := "java/lang/Object", name := "<init>", desc := "()V" } : Jvm.MethodName)) ∈ lw_good := am_in1 187 rfl rfl
set_option maxRecDepth 20000 in
theorem w_1_188 : (Jvm.Cond.fieldLink "java/lang/Throwable" (13 : Nat) "java/lang/Throwable" "UNASSIGNED_STACK" "[Ljava/lang/StackTraceElement;") ∈ lw_good := am_in1 188 rfl rfl
set_option maxRecDepth 20000 in
theorem w_1_190 : (Jvm.Cond.fieldLink "java/lang/Throwable" (20 : Nat) "java/lang/Throwable" "SUPPRESSED_SENTINEL" "Ljava/util/List;") ∈ lw_good := am_in1 190 rfl rfl
set_option maxRecDepth 20000 in
theorem w_1_192 : (Jvm.Cond.methodLink "java/lang/Throwable" (27 : Nat) ({ cls := "java/lang/Throwable", name := "fillInStackTrace", desc := "()Ljava/lang/Throwable;" } : Jvm.MethodName)) ∈ lw_good := am_in1 192 rfl rfl
set_option maxRecDepth 20000 in
theorem w_1_193 : (Jvm.Cond.instanceMethod ({ cls := "java/lang/Throwable", name := "fillInStackTrace", desc := "()Ljava/lang/Throwable;" } : Jvm.MethodName)) ∈ lw_good := am_in1 193 rfl rfl
set_option maxRecDepth 20000 in
theorem w_1_195 : (Jvm.Cond.selects "java/lang/IllegalStateException" ({ cls := "java/lang/Throwable", name := "fillInStackTrace", desc := "()Ljava/lang/Throwable;" } : Jvm.MethodName) ({ cls := "java/lang/Throwable", name := "fillInStackTrace", desc := "()Ljava/lang/Throwable;" } : Jvm.MethodName)) ∈ lw_good := am_in1 195 rfl rfl
set_option maxRecDepth 20000 in
theorem w_1_196 : (Jvm.Cond.selects "java/lang/IndexOutOfBoundsException" ({ cls := "java/lang/Throwable", name := "fillInStackTrace", desc := "()Ljava/lang/Throwable;" } : Jvm.MethodName) ({ cls := "java/lang/Throwable", name := "fillInStackTrace", desc := "()Ljava/lang/Throwable;" } : Jvm.MethodName)) ∈ lw_good := am_in1 196 rfl rfl
set_option maxRecDepth 20000 in
theorem w_1_197 : (Jvm.Cond.selects "java/lang/UnsupportedOperationException" ({ cls := "java/lang/Throwable", name := "fillInStackTrace", desc := "()Ljava/lang/Throwable;" } : Jvm.MethodName) ({ cls := "java/lang/Throwable", name := "fillInStackTrace", desc := "()Ljava/lang/Throwable;" } : Jvm.MethodName)) ∈ lw_good := am_in1 197 rfl rfl
set_option maxRecDepth 20000 in
theorem w_1_198 : (Jvm.Cond.selects "java/util/NoSuchElementException" ({ cls := "java/lang/Throwable", name := "fillInStackTrace", desc := "()Ljava/lang/Throwable;" } : Jvm.MethodName) ({ cls := "java/lang/Throwable", name := "fillInStackTrace", desc := "()Ljava/lang/Throwable;" } : Jvm.MethodName)) ∈ lw_good := am_in1 198 rfl rfl
set_option maxRecDepth 20000 in
theorem w_1_199 : (Jvm.Cond.codeSync ({ cls := "java/lang/Throwable", name := "fillInStackTrace", desc := "()Ljava/lang/Throwable;" } : Jvm.MethodName) prog_12_method_18_code (1 : Nat) (Option.some (Jvm.ClassFile.FieldType.object "java/lang/Throwable"))) ∈ lw_good := am_in1 199 rfl rfl
set_option maxRecDepth 20000 in
theorem w_1_200 : (Jvm.Cond.methodLink "java/lang/Throwable" (202 : Nat) ({ cls := "java/lang/Throwable", name := "fillInStackTrace", desc := "(I)Ljava/lang/Throwable;" } : Jvm.MethodName)) ∈ lw_good := am_in1 200 rfl rfl
set_option maxRecDepth 20000 in
theorem w_1_202 : (Jvm.Cond.instanceMethod ({ cls := "java/lang/Throwable", name := "fillInStackTrace", desc := "(I)Ljava/lang/Throwable;" } : Jvm.MethodName)) ∈ lw_good := am_in1 202 rfl rfl
set_option maxRecDepth 20000 in
theorem w_1_204 : (Jvm.Cond.native ({ cls := "java/lang/Throwable", name := "fillInStackTrace", desc := "(I)Ljava/lang/Throwable;" } : Jvm.MethodName)) ∈ lw_good := am_in1 204 rfl rfl
set_option maxRecDepth 20000 in
theorem w_1_205 : (Jvm.Cond.methodLink "PagingKernel" (163 : Nat) ({ cls := "java/lang/IllegalArgumentException", name := "<init>", desc := "()V" } : Jvm.MethodName)) ∈ lw_good := am_in1 205 rfl rfl
set_option maxRecDepth 20000 in
theorem w_1_206 : (Jvm.Cond.instanceMethod ({ cls := "java/lang/IllegalArgumentException", name := "<init>", desc := "()V" } : Jvm.MethodName)) ∈ lw_good := am_in1 206 rfl rfl
set_option maxRecDepth 20000 in
theorem w_1_207 : (Jvm.Cond.code ({ cls := "java/lang/IllegalArgumentException", name := "<init>", desc := "()V" } : Jvm.MethodName) prog_6_method_1_code (1 : Nat) (Option.none : Option Jvm.ClassFile.FieldType)) ∈ lw_good := am_in1 207 rfl rfl
set_option maxRecDepth 20000 in
theorem w_1_208 : (Jvm.Cond.methodLink "java/lang/IllegalArgumentException" (1 : Nat) ({ cls := "java/lang/RuntimeException", name := "<init>", desc := "()V" } : Jvm.MethodName)) ∈ lw_good := am_in1 208 rfl rfl
set_option maxRecDepth 20000 in
theorem w_1_209 : (Jvm.Cond.instanceMethod ({ cls := "java/lang/RuntimeException", name := "<init>", desc := "()V" } : Jvm.MethodName)) ∈ lw_good := am_in1 209 rfl rfl
set_option maxRecDepth 20000 in
theorem w_1_210 : (Jvm.Cond.code ({ cls := "java/lang/RuntimeException", name := "<init>", desc := "()V" } : Jvm.MethodName) prog_10_method_1_code (1 : Nat) (Option.none : Option Jvm.ClassFile.FieldType)) ∈ lw_good := am_in1 210 rfl rfl
set_option maxRecDepth 20000 in
theorem w_1_211 : (Jvm.Cond.methodLink "java/lang/RuntimeException" (1 : Nat) ({ cls := "java/lang/Exception", name := "<init>", desc := "()V" } : Jvm.MethodName)) ∈ lw_good := am_in1 211 rfl rfl
set_option maxRecDepth 20000 in
theorem w_1_212 : (Jvm.Cond.instanceMethod ({ cls := "java/lang/Exception", name := "<init>", desc := "()V" } : Jvm.MethodName)) ∈ lw_good := am_in1 212 rfl rfl
set_option maxRecDepth 20000 in
theorem w_1_213 : (Jvm.Cond.code ({ cls := "java/lang/Exception", name := "<init>", desc := "()V" } : Jvm.MethodName) prog_5_method_1_code (1 : Nat) (Option.none : Option Jvm.ClassFile.FieldType)) ∈ lw_good := am_in1 213 rfl rfl
set_option maxRecDepth 20000 in
theorem w_1_214 : (Jvm.Cond.methodLink "java/lang/Exception" (1 : Nat) ({ cls := "java/lang/Throwable", name := "<init>", desc := "()V" } : Jvm.MethodName)) ∈ lw_good := am_in1 214 rfl rfl
set_option maxRecDepth 20000 in
theorem w_1_216 : (Jvm.Cond.fieldLink "java/lang/Throwable" (7 : Nat) "java/lang/Throwable" "cause" "Ljava/lang/Throwable;") ∈ lw_good := am_in1 216 rfl rfl
set_option maxRecDepth 20000 in
theorem w_1_217 : (Jvm.Cond.fieldLink "java/lang/Throwable" (17 : Nat) "java/lang/Throwable" "stackTrace" "[Ljava/lang/StackTraceElement;") ∈ lw_good := am_in1 217 rfl rfl
set_option maxRecDepth 20000 in
theorem w_1_218 : (Jvm.Cond.fieldLink "java/lang/Throwable" (24 : Nat) "java/lang/Throwable" "suppressedExceptions" "Ljava/util/List;") ∈ lw_good := am_in1 218 rfl rfl
set_option maxRecDepth 20000 in
theorem w_1_227 : (Jvm.Cond.methodLink "PagingKernel" (59 : Nat) ({ cls := "PagingKernel", name := "checkRunning", desc := "(I)V" } : Jvm.MethodName)) ∈ lw_good := am_in1 227 rfl rfl
set_option maxRecDepth 20000 in
theorem w_1_229 : (Jvm.Cond.instanceMethod ({ cls := "PagingKernel", name := "checkRunning", desc := "(I)V" } : Jvm.MethodName)) ∈ lw_good := am_in1 229 rfl rfl
set_option maxRecDepth 20000 in
theorem w_1_230 : (Jvm.Cond.code ({ cls := "PagingKernel", name := "checkRunning", desc := "(I)V" } : Jvm.MethodName) prog_1_method_18_code (2 : Nat) (Option.none : Option Jvm.ClassFile.FieldType)) ∈ lw_good := am_in1 230 rfl rfl
set_option maxRecDepth 20000 in
theorem w_1_231 : (Jvm.Cond.classLink "PagingKernel" (164 : Nat) "java/util/NoSuchElementException") ∈ lw_good := am_in1 231 rfl rfl
set_option maxRecDepth 20000 in
theorem w_1_232 : (Jvm.Cond.instantiable "java/util/NoSuchElementException" (6 : Nat)) ∈ lw_good := am_in1 232 rfl rfl
set_option maxRecDepth 20000 in
theorem w_1_234 : (Jvm.Cond.selects "java/util/NoSuchElementException" ({ cls := "java/lang/Throwable", name := "fillInStackTrace", desc := "(I)Ljava/lang/Throwable;" } : Jvm.MethodName) ({ cls := "java/lang/Throwable", name := "fillInStackTrace", desc := "(I)Ljava/lang/Throwable;" } : Jvm.MethodName)) ∈ lw_good := am_in1 234 rfl rfl
set_option maxRecDepth 20000 in
theorem w_1_235 : (Jvm.Cond.lays "java/util/NoSuchElementException" "java/lang/Throwable" "cause" "Ljava/lang/Throwable;") ∈ lw_good := am_in1 235 rfl rfl
set_option maxRecDepth 20000 in
theorem w_1_236 : (Jvm.Cond.lays "java/util/NoSuchElementException" "java/lang/Throwable" "stackTrace" "[Ljava/lang/StackTraceElement;") ∈ lw_good := am_in1 236 rfl rfl
set_option maxRecDepth 20000 in
theorem w_1_237 : (Jvm.Cond.lays "java/util/NoSuchElementException" "java/lang/Throwable" "suppressedExceptions" "Ljava/util/List;") ∈ lw_good := am_in1 237 rfl rfl
set_option maxRecDepth 20000 in
theorem w_1_238 : (Jvm.Cond.lays "java/util/NoSuchElementException" "java/lang/Throwable" "detailMessage" "Ljava/lang/String;") ∈ lw_good := am_in1 238 rfl rfl
set_option maxRecDepth 20000 in
theorem w_1_239 : (Jvm.Cond.lays "java/util/NoSuchElementException" "java/lang/Throwable" "backtrace" "Ljava/lang/Object;") ∈ lw_good := am_in1 239 rfl rfl
set_option maxRecDepth 20000 in
theorem w_2_0 : (Jvm.Cond.methodLink "PagingKernel" (166 : Nat) ({ cls := "java/util/NoSuchElementException", name := "<init>", desc := "()V" } : Jvm.MethodName)) ∈ lw_good := am_in2 0 rfl rfl
set_option maxRecDepth 20000 in
theorem w_2_1 : (Jvm.Cond.instanceMethod ({ cls := "java/util/NoSuchElementException", name := "<init>", desc := "()V" } : Jvm.MethodName)) ∈ lw_good := am_in2 1 rfl rfl
set_option maxRecDepth 20000 in
theorem w_2_2 : (Jvm.Cond.code ({ cls := "java/util/NoSuchElementException", name := "<init>", desc := "()V" } : Jvm.MethodName) prog_15_method_1_code (1 : Nat) (Option.none : Option Jvm.ClassFile.FieldType)) ∈ lw_good := am_in2 2 rfl rfl
set_option maxRecDepth 20000 in
theorem w_2_3 : (Jvm.Cond.methodLink "java/util/NoSuchElementException" (1 : Nat) ({ cls := "java/lang/RuntimeException", name := "<init>", desc := "()V" } : Jvm.MethodName)) ∈ lw_good := am_in2 3 rfl rfl
set_option maxRecDepth 20000 in
theorem w_2_6 : (Jvm.Cond.methodLink "PagingKernel" (62 : Nat) ({ cls := "PagingKernel", name := "leastFreeProcess", desc := "()I" } : Jvm.MethodName)) ∈ lw_good := am_in2 6 rfl rfl
set_option maxRecDepth 20000 in
theorem w_2_8 : (Jvm.Cond.instanceMethod ({ cls := "PagingKernel", name := "leastFreeProcess", desc := "()I" } : Jvm.MethodName)) ∈ lw_good := am_in2 8 rfl rfl
set_option maxRecDepth 20000 in
theorem w_2_9 : (Jvm.Cond.code ({ cls := "PagingKernel", name := "leastFreeProcess", desc := "()I" } : Jvm.MethodName) prog_1_method_26_code (2 : Nat) (Option.some Jvm.ClassFile.FieldType.int)) ∈ lw_good := am_in2 9 rfl rfl
set_option maxRecDepth 20000 in
theorem w_2_10 : (Jvm.Cond.classLink "PagingKernel" (66 : Nat) "java/lang/UnsupportedOperationException") ∈ lw_good := am_in2 10 rfl rfl
set_option maxRecDepth 20000 in
theorem w_2_11 : (Jvm.Cond.instantiable "java/lang/UnsupportedOperationException" (6 : Nat)) ∈ lw_good := am_in2 11 rfl rfl
set_option maxRecDepth 20000 in
theorem w_2_13 : (Jvm.Cond.selects "java/lang/UnsupportedOperationException" ({ cls := "java/lang/Throwable", name := "fillInStackTrace", desc := "(I)Ljava/lang/Throwable;" } : Jvm.MethodName) ({ cls := "java/lang/Throwable", name := "fillInStackTrace", desc := "(I)Ljava/lang/Throwable;" } : Jvm.MethodName)) ∈ lw_good := am_in2 13 rfl rfl
set_option maxRecDepth 20000 in
theorem w_2_14 : (Jvm.Cond.lays "java/lang/UnsupportedOperationException" "java/lang/Throwable" "cause" "Ljava/lang/Throwable;") ∈ lw_good := am_in2 14 rfl rfl
set_option maxRecDepth 20000 in
theorem w_2_15 : (Jvm.Cond.lays "java/lang/UnsupportedOperationException" "java/lang/Throwable" "stackTrace" "[Ljava/lang/StackTraceElement;") ∈ lw_good := am_in2 15 rfl rfl
set_option maxRecDepth 20000 in
theorem w_2_16 : (Jvm.Cond.lays "java/lang/UnsupportedOperationException" "java/lang/Throwable" "suppressedExceptions" "Ljava/util/List;") ∈ lw_good := am_in2 16 rfl rfl
set_option maxRecDepth 20000 in
theorem w_2_17 : (Jvm.Cond.lays "java/lang/UnsupportedOperationException" "java/lang/Throwable" "detailMessage" "Ljava/lang/String;") ∈ lw_good := am_in2 17 rfl rfl
set_option maxRecDepth 20000 in
theorem w_2_18 : (Jvm.Cond.lays "java/lang/UnsupportedOperationException" "java/lang/Throwable" "backtrace" "Ljava/lang/Object;") ∈ lw_good := am_in2 18 rfl rfl
set_option maxRecDepth 20000 in
theorem w_2_19 : (Jvm.Cond.methodLink "PagingKernel" (68 : Nat) ({ cls := "java/lang/UnsupportedOperationException", name := "<init>", desc := "()V" } : Jvm.MethodName)) ∈ lw_good := am_in2 19 rfl rfl
set_option maxRecDepth 20000 in
theorem w_2_20 : (Jvm.Cond.instanceMethod ({ cls := "java/lang/UnsupportedOperationException", name := "<init>", desc := "()V" } : Jvm.MethodName)) ∈ lw_good := am_in2 20 rfl rfl
set_option maxRecDepth 20000 in
theorem w_2_21 : (Jvm.Cond.code ({ cls := "java/lang/UnsupportedOperationException", name := "<init>", desc := "()V" } : Jvm.MethodName) prog_13_method_1_code (1 : Nat) (Option.none : Option Jvm.ClassFile.FieldType)) ∈ lw_good := am_in2 21 rfl rfl
set_option maxRecDepth 20000 in
theorem w_2_22 : (Jvm.Cond.methodLink "java/lang/UnsupportedOperationException" (1 : Nat) ({ cls := "java/lang/RuntimeException", name := "<init>", desc := "()V" } : Jvm.MethodName)) ∈ lw_good := am_in2 22 rfl rfl
set_option maxRecDepth 20000 in
theorem w_2_25 : (Jvm.Cond.methodLink "PagingKernel" (69 : Nat) ({ cls := "PagingKernel", name := "sharePages", desc := "(II)V" } : Jvm.MethodName)) ∈ lw_good := am_in2 25 rfl rfl
set_option maxRecDepth 20000 in
theorem w_2_27 : (Jvm.Cond.instanceMethod ({ cls := "PagingKernel", name := "sharePages", desc := "(II)V" } : Jvm.MethodName)) ∈ lw_good := am_in2 27 rfl rfl
set_option maxRecDepth 20000 in
theorem w_2_28 : (Jvm.Cond.code ({ cls := "PagingKernel", name := "sharePages", desc := "(II)V" } : Jvm.MethodName) prog_1_method_24_code (5 : Nat) (Option.none : Option Jvm.ClassFile.FieldType)) ∈ lw_good := am_in2 28 rfl rfl
set_option maxRecDepth 20000 in
theorem w_2_29 : (Jvm.Cond.methodLink "PagingKernelLaw" (81 : Nat) ({ cls := "PagingKernelLaw", name := "exec", desc := "(LPagingKernel;II[J)I" } : Jvm.MethodName)) ∈ lw_good := am_in2 29 rfl rfl
set_option maxRecDepth 20000 in
theorem w_2_30 : (Jvm.Cond.static ({ cls := "PagingKernelLaw", name := "exec", desc := "(LPagingKernel;II[J)I" } : Jvm.MethodName)) ∈ lw_good := am_in2 30 rfl rfl
set_option maxRecDepth 20000 in
theorem w_2_31 : (Jvm.Cond.codeWith ({ cls := "PagingKernelLaw", name := "exec", desc := "(LPagingKernel;II[J)I" } : Jvm.MethodName) method_4_code (5 : Nat) (Option.some Jvm.ClassFile.FieldType.int) [((0 : Nat), (10 : Nat), (13 : Nat), (13 : Nat)), ((0 : Nat), (10 : Nat), (17 : Nat), (15 : Nat))]) ∈ lw_good := am_in2 31 rfl rfl
set_option maxRecDepth 20000 in
theorem w_2_32 : (Jvm.Cond.methodLink "PagingKernelLaw" (19 : Nat) ({ cls := "PagingKernel", name := "exec", desc := "(II)I" } : Jvm.MethodName)) ∈ lw_good := am_in2 32 rfl rfl
set_option maxRecDepth 20000 in
theorem w_2_33 : (Jvm.Cond.instanceMethod ({ cls := "PagingKernel", name := "exec", desc := "(II)I" } : Jvm.MethodName)) ∈ lw_good := am_in2 33 rfl rfl
set_option maxRecDepth 20000 in
theorem w_2_34 : (Jvm.Cond.selects "PagingKernel" ({ cls := "PagingKernel", name := "exec", desc := "(II)I" } : Jvm.MethodName) ({ cls := "PagingKernel", name := "exec", desc := "(II)I" } : Jvm.MethodName)) ∈ lw_good := am_in2 34 rfl rfl
set_option maxRecDepth 20000 in
theorem w_2_35 : (Jvm.Cond.code ({ cls := "PagingKernel", name := "exec", desc := "(II)I" } : Jvm.MethodName) prog_1_method_3_code (3 : Nat) (Option.some Jvm.ClassFile.FieldType.int)) ∈ lw_good := am_in2 35 rfl rfl
set_option maxRecDepth 20000 in
theorem w_2_36 : (Jvm.Cond.methodLink "PagingKernelLaw" (85 : Nat) ({ cls := "PagingKernelLaw", name := "exit", desc := "(LPagingKernel;II[J)I" } : Jvm.MethodName)) ∈ lw_good := am_in2 36 rfl rfl
set_option maxRecDepth 20000 in
theorem w_2_37 : (Jvm.Cond.static ({ cls := "PagingKernelLaw", name := "exit", desc := "(LPagingKernel;II[J)I" } : Jvm.MethodName)) ∈ lw_good := am_in2 37 rfl rfl
set_option maxRecDepth 20000 in
theorem w_2_38 : (Jvm.Cond.codeWith ({ cls := "PagingKernelLaw", name := "exit", desc := "(LPagingKernel;II[J)I" } : Jvm.MethodName) method_5_code (5 : Nat) (Option.some Jvm.ClassFile.FieldType.int) [((0 : Nat), (10 : Nat), (13 : Nat), (13 : Nat)), ((0 : Nat), (10 : Nat), (17 : Nat), (15 : Nat))]) ∈ lw_good := am_in2 38 rfl rfl
set_option maxRecDepth 20000 in
theorem w_2_39 : (Jvm.Cond.methodLink "PagingKernelLaw" (23 : Nat) ({ cls := "PagingKernel", name := "exit", desc := "(II)I" } : Jvm.MethodName)) ∈ lw_good := am_in2 39 rfl rfl
set_option maxRecDepth 20000 in
theorem w_2_40 : (Jvm.Cond.instanceMethod ({ cls := "PagingKernel", name := "exit", desc := "(II)I" } : Jvm.MethodName)) ∈ lw_good := am_in2 40 rfl rfl
set_option maxRecDepth 20000 in
theorem w_2_41 : (Jvm.Cond.selects "PagingKernel" ({ cls := "PagingKernel", name := "exit", desc := "(II)I" } : Jvm.MethodName) ({ cls := "PagingKernel", name := "exit", desc := "(II)I" } : Jvm.MethodName)) ∈ lw_good := am_in2 41 rfl rfl
set_option maxRecDepth 20000 in
theorem w_2_42 : (Jvm.Cond.code ({ cls := "PagingKernel", name := "exit", desc := "(II)I" } : Jvm.MethodName) prog_1_method_4_code (3 : Nat) (Option.some Jvm.ClassFile.FieldType.int)) ∈ lw_good := am_in2 42 rfl rfl
set_option maxRecDepth 20000 in
theorem w_2_43 : (Jvm.Cond.methodLink "PagingKernel" (79 : Nat) ({ cls := "PagingKernel", name := "orphansToFirst", desc := "(I)I" } : Jvm.MethodName)) ∈ lw_good := am_in2 43 rfl rfl
set_option maxRecDepth 20000 in
theorem w_2_45 : (Jvm.Cond.instanceMethod ({ cls := "PagingKernel", name := "orphansToFirst", desc := "(I)I" } : Jvm.MethodName)) ∈ lw_good := am_in2 45 rfl rfl
set_option maxRecDepth 20000 in
theorem w_2_46 : (Jvm.Cond.code ({ cls := "PagingKernel", name := "orphansToFirst", desc := "(I)I" } : Jvm.MethodName) prog_1_method_29_code (4 : Nat) (Option.some Jvm.ClassFile.FieldType.int)) ∈ lw_good := am_in2 46 rfl rfl
set_option maxRecDepth 20000 in
theorem w_2_47 : (Jvm.Cond.methodLink "PagingKernelLaw" (88 : Nat) ({ cls := "PagingKernelLaw", name := "await", desc := "(LPagingKernel;I[J)I" } : Jvm.MethodName)) ∈ lw_good := am_in2 47 rfl rfl
set_option maxRecDepth 20000 in
theorem w_2_48 : (Jvm.Cond.static ({ cls := "PagingKernelLaw", name := "await", desc := "(LPagingKernel;I[J)I" } : Jvm.MethodName)) ∈ lw_good := am_in2 48 rfl rfl
set_option maxRecDepth 20000 in
theorem w_2_49 : (Jvm.Cond.codeWith ({ cls := "PagingKernelLaw", name := "await", desc := "(LPagingKernel;I[J)I" } : Jvm.MethodName) method_6_code (4 : Nat) (Option.some Jvm.ClassFile.FieldType.int) [((0 : Nat), (9 : Nat), (12 : Nat), (13 : Nat)), ((0 : Nat), (9 : Nat), (15 : Nat), (15 : Nat)), ((0 : Nat), (9 : Nat), (18 : Nat), (17 : Nat)), ((0 : Nat), (9 : Nat), (21 : Nat), (29 : Nat))]) ∈ lw_good := am_in2 49 rfl rfl
set_option maxRecDepth 20000 in
theorem w_2_50 : (Jvm.Cond.classLink "PagingKernelLaw" (29 : Nat) "java/lang/IllegalStateException") ∈ lw_good := am_in2 50 rfl rfl
set_option maxRecDepth 20000 in
theorem w_2_51 : (Jvm.Cond.methodLink "PagingKernelLaw" (26 : Nat) ({ cls := "PagingKernel", name := "await", desc := "(I)I" } : Jvm.MethodName)) ∈ lw_good := am_in2 51 rfl rfl
set_option maxRecDepth 20000 in
theorem w_2_52 : (Jvm.Cond.instanceMethod ({ cls := "PagingKernel", name := "await", desc := "(I)I" } : Jvm.MethodName)) ∈ lw_good := am_in2 52 rfl rfl
set_option maxRecDepth 20000 in
theorem w_2_53 : (Jvm.Cond.selects "PagingKernel" ({ cls := "PagingKernel", name := "await", desc := "(I)I" } : Jvm.MethodName) ({ cls := "PagingKernel", name := "await", desc := "(I)I" } : Jvm.MethodName)) ∈ lw_good := am_in2 53 rfl rfl
set_option maxRecDepth 20000 in
theorem w_2_54 : (Jvm.Cond.code ({ cls := "PagingKernel", name := "await", desc := "(I)I" } : Jvm.MethodName) prog_1_method_5_code (3 : Nat) (Option.some Jvm.ClassFile.FieldType.int)) ∈ lw_good := am_in2 54 rfl rfl
set_option maxRecDepth 20000 in
theorem w_2_55 : (Jvm.Cond.methodLink "PagingKernel" (83 : Nat) ({ cls := "PagingKernel", name := "isParent", desc := "(I)Z" } : Jvm.MethodName)) ∈ lw_good := am_in2 55 rfl rfl
set_option maxRecDepth 20000 in
theorem w_2_57 : (Jvm.Cond.instanceMethod ({ cls := "PagingKernel", name := "isParent", desc := "(I)Z" } : Jvm.MethodName)) ∈ lw_good := am_in2 57 rfl rfl
set_option maxRecDepth 20000 in
theorem w_2_58 : (Jvm.Cond.code ({ cls := "PagingKernel", name := "isParent", desc := "(I)Z" } : Jvm.MethodName) prog_1_method_27_code (3 : Nat) (Option.some Jvm.ClassFile.FieldType.boolean)) ∈ lw_good := am_in2 58 rfl rfl
set_option maxRecDepth 20000 in
theorem w_2_59 : (Jvm.Cond.methodLink "PagingKernel" (87 : Nat) ({ cls := "PagingKernel", name := "leastDeadChild", desc := "(I)I" } : Jvm.MethodName)) ∈ lw_good := am_in2 59 rfl rfl
set_option maxRecDepth 20000 in
theorem w_2_61 : (Jvm.Cond.instanceMethod ({ cls := "PagingKernel", name := "leastDeadChild", desc := "(I)I" } : Jvm.MethodName)) ∈ lw_good := am_in2 61 rfl rfl
set_option maxRecDepth 20000 in
theorem w_2_62 : (Jvm.Cond.code ({ cls := "PagingKernel", name := "leastDeadChild", desc := "(I)I" } : Jvm.MethodName) prog_1_method_28_code (3 : Nat) (Option.some Jvm.ClassFile.FieldType.int)) ∈ lw_good := am_in2 62 rfl rfl
set_option maxRecDepth 20000 in
theorem w_2_63 : (Jvm.Cond.classLink "PagingKernel" (90 : Nat) "java/lang/IllegalStateException") ∈ lw_good := am_in2 63 rfl rfl
set_option maxRecDepth 20000 in
theorem w_2_64 : (Jvm.Cond.instantiable "java/lang/IllegalStateException" (6 : Nat)) ∈ lw_good := am_in2 64 rfl rfl
set_option maxRecDepth 20000 in
theorem w_2_66 : (Jvm.Cond.selects "java/lang/IllegalStateException" ({ cls := "java/lang/Throwable", name := "fillInStackTrace", desc := "(I)Ljava/lang/Throwable;" } : Jvm.MethodName) ({ cls := "java/lang/Throwable", name := "fillInStackTrace", desc := "(I)Ljava/lang/Throwable;" } : Jvm.MethodName)) ∈ lw_good := am_in2 66 rfl rfl
set_option maxRecDepth 20000 in
theorem w_2_67 : (Jvm.Cond.lays "java/lang/IllegalStateException" "java/lang/Throwable" "cause" "Ljava/lang/Throwable;") ∈ lw_good := am_in2 67 rfl rfl
set_option maxRecDepth 20000 in
theorem w_2_68 : (Jvm.Cond.lays "java/lang/IllegalStateException" "java/lang/Throwable" "stackTrace" "[Ljava/lang/StackTraceElement;") ∈ lw_good := am_in2 68 rfl rfl
set_option maxRecDepth 20000 in
theorem w_2_69 : (Jvm.Cond.lays "java/lang/IllegalStateException" "java/lang/Throwable" "suppressedExceptions" "Ljava/util/List;") ∈ lw_good := am_in2 69 rfl rfl
set_option maxRecDepth 20000 in
theorem w_2_70 : (Jvm.Cond.lays "java/lang/IllegalStateException" "java/lang/Throwable" "detailMessage" "Ljava/lang/String;") ∈ lw_good := am_in2 70 rfl rfl
set_option maxRecDepth 20000 in
theorem w_2_71 : (Jvm.Cond.lays "java/lang/IllegalStateException" "java/lang/Throwable" "backtrace" "Ljava/lang/Object;") ∈ lw_good := am_in2 71 rfl rfl
set_option maxRecDepth 20000 in
theorem w_2_72 : (Jvm.Cond.methodLink "PagingKernel" (92 : Nat) ({ cls := "java/lang/IllegalStateException", name := "<init>", desc := "()V" } : Jvm.MethodName)) ∈ lw_good := am_in2 72 rfl rfl
set_option maxRecDepth 20000 in
theorem w_2_73 : (Jvm.Cond.instanceMethod ({ cls := "java/lang/IllegalStateException", name := "<init>", desc := "()V" } : Jvm.MethodName)) ∈ lw_good := am_in2 73 rfl rfl
set_option maxRecDepth 20000 in
theorem w_2_74 : (Jvm.Cond.code ({ cls := "java/lang/IllegalStateException", name := "<init>", desc := "()V" } : Jvm.MethodName) prog_7_method_1_code (1 : Nat) (Option.none : Option Jvm.ClassFile.FieldType)) ∈ lw_good := am_in2 74 rfl rfl
set_option maxRecDepth 20000 in
theorem w_2_75 : (Jvm.Cond.methodLink "java/lang/IllegalStateException" (1 : Nat) ({ cls := "java/lang/RuntimeException", name := "<init>", desc := "()V" } : Jvm.MethodName)) ∈ lw_good := am_in2 75 rfl rfl
set_option maxRecDepth 20000 in
theorem w_2_78 : (Jvm.Cond.methodLink "PagingKernelLaw" (91 : Nat) ({ cls := "PagingKernelLaw", name := "grow", desc := "(LPagingKernel;II[J)I" } : Jvm.MethodName)) ∈ lw_good := am_in2 78 rfl rfl
set_option maxRecDepth 20000 in
theorem w_2_79 : (Jvm.Cond.static ({ cls := "PagingKernelLaw", name := "grow", desc := "(LPagingKernel;II[J)I" } : Jvm.MethodName)) ∈ lw_good := am_in2 79 rfl rfl
set_option maxRecDepth 20000 in
theorem w_2_80 : (Jvm.Cond.codeWith ({ cls := "PagingKernelLaw", name := "grow", desc := "(LPagingKernel;II[J)I" } : Jvm.MethodName) method_7_code (5 : Nat) (Option.some Jvm.ClassFile.FieldType.int) [((0 : Nat), (10 : Nat), (13 : Nat), (13 : Nat)), ((0 : Nat), (10 : Nat), (17 : Nat), (15 : Nat)), ((0 : Nat), (10 : Nat), (21 : Nat), (17 : Nat))]) ∈ lw_good := am_in2 80 rfl rfl
set_option maxRecDepth 20000 in
theorem w_2_81 : (Jvm.Cond.methodLink "PagingKernelLaw" (31 : Nat) ({ cls := "PagingKernel", name := "grow", desc := "(II)I" } : Jvm.MethodName)) ∈ lw_good := am_in2 81 rfl rfl
set_option maxRecDepth 20000 in
theorem w_2_82 : (Jvm.Cond.instanceMethod ({ cls := "PagingKernel", name := "grow", desc := "(II)I" } : Jvm.MethodName)) ∈ lw_good := am_in2 82 rfl rfl
set_option maxRecDepth 20000 in
theorem w_2_83 : (Jvm.Cond.selects "PagingKernel" ({ cls := "PagingKernel", name := "grow", desc := "(II)I" } : Jvm.MethodName) ({ cls := "PagingKernel", name := "grow", desc := "(II)I" } : Jvm.MethodName)) ∈ lw_good := am_in2 83 rfl rfl
set_option maxRecDepth 20000 in
theorem w_2_84 : (Jvm.Cond.code ({ cls := "PagingKernel", name := "grow", desc := "(II)I" } : Jvm.MethodName) prog_1_method_6_code (5 : Nat) (Option.some Jvm.ClassFile.FieldType.int)) ∈ lw_good := am_in2 84 rfl rfl
set_option maxRecDepth 20000 in
theorem w_2_85 : (Jvm.Cond.methodLink "PagingKernelLaw" (94 : Nat) ({ cls := "PagingKernelLaw", name := "read", desc := "(LPagingKernel;II[J)I" } : Jvm.MethodName)) ∈ lw_good := am_in2 85 rfl rfl
set_option maxRecDepth 20000 in
theorem w_2_86 : (Jvm.Cond.static ({ cls := "PagingKernelLaw", name := "read", desc := "(LPagingKernel;II[J)I" } : Jvm.MethodName)) ∈ lw_good := am_in2 86 rfl rfl
set_option maxRecDepth 20000 in
theorem w_2_87 : (Jvm.Cond.codeWith ({ cls := "PagingKernelLaw", name := "read", desc := "(LPagingKernel;II[J)I" } : Jvm.MethodName) method_8_code (5 : Nat) (Option.some Jvm.ClassFile.FieldType.int) [((0 : Nat), (10 : Nat), (13 : Nat), (13 : Nat)), ((0 : Nat), (10 : Nat), (17 : Nat), (15 : Nat)), ((0 : Nat), (10 : Nat), (21 : Nat), (37 : Nat)), ((0 : Nat), (10 : Nat), (25 : Nat), (29 : Nat))]) ∈ lw_good := am_in2 87 rfl rfl
set_option maxRecDepth 20000 in
theorem w_2_88 : (Jvm.Cond.classLink "PagingKernelLaw" (37 : Nat) "java/lang/IndexOutOfBoundsException") ∈ lw_good := am_in2 88 rfl rfl
set_option maxRecDepth 20000 in
theorem w_2_89 : (Jvm.Cond.methodLink "PagingKernelLaw" (34 : Nat) ({ cls := "PagingKernel", name := "read", desc := "(II)I" } : Jvm.MethodName)) ∈ lw_good := am_in2 89 rfl rfl
set_option maxRecDepth 20000 in
theorem w_2_90 : (Jvm.Cond.instanceMethod ({ cls := "PagingKernel", name := "read", desc := "(II)I" } : Jvm.MethodName)) ∈ lw_good := am_in2 90 rfl rfl
set_option maxRecDepth 20000 in
theorem w_2_91 : (Jvm.Cond.selects "PagingKernel" ({ cls := "PagingKernel", name := "read", desc := "(II)I" } : Jvm.MethodName) ({ cls := "PagingKernel", name := "read", desc := "(II)I" } : Jvm.MethodName)) ∈ lw_good := am_in2 91 rfl rfl
set_option maxRecDepth 20000 in
theorem w_2_92 : (Jvm.Cond.code ({ cls := "PagingKernel", name := "read", desc := "(II)I" } : Jvm.MethodName) prog_1_method_7_code (4 : Nat) (Option.some Jvm.ClassFile.FieldType.int)) ∈ lw_good := am_in2 92 rfl rfl
set_option maxRecDepth 20000 in
theorem w_2_93 : (Jvm.Cond.methodLink "PagingKernel" (96 : Nat) ({ cls := "PagingKernel", name := "checkAddress", desc := "(II)V" } : Jvm.MethodName)) ∈ lw_good := am_in2 93 rfl rfl
set_option maxRecDepth 20000 in
theorem w_2_95 : (Jvm.Cond.instanceMethod ({ cls := "PagingKernel", name := "checkAddress", desc := "(II)V" } : Jvm.MethodName)) ∈ lw_good := am_in2 95 rfl rfl
set_option maxRecDepth 20000 in
theorem w_2_96 : (Jvm.Cond.code ({ cls := "PagingKernel", name := "checkAddress", desc := "(II)V" } : Jvm.MethodName) prog_1_method_19_code (3 : Nat) (Option.none : Option Jvm.ClassFile.FieldType)) ∈ lw_good := am_in2 96 rfl rfl
set_option maxRecDepth 20000 in
theorem w_2_97 : (Jvm.Cond.methodLink "PagingKernel" (99 : Nat) ({ cls := "PagingKernel", name := "growStackTo", desc := "(II)V" } : Jvm.MethodName)) ∈ lw_good := am_in2 97 rfl rfl
set_option maxRecDepth 20000 in
theorem w_2_99 : (Jvm.Cond.instanceMethod ({ cls := "PagingKernel", name := "growStackTo", desc := "(II)V" } : Jvm.MethodName)) ∈ lw_good := am_in2 99 rfl rfl
set_option maxRecDepth 20000 in
theorem w_2_100 : (Jvm.Cond.code ({ cls := "PagingKernel", name := "growStackTo", desc := "(II)V" } : Jvm.MethodName) prog_1_method_25_code (4 : Nat) (Option.none : Option Jvm.ClassFile.FieldType)) ∈ lw_good := am_in2 100 rfl rfl
set_option maxRecDepth 20000 in
theorem w_2_101 : (Jvm.Cond.methodLink "PagingKernel" (102 : Nat) ({ cls := "PagingKernel", name := "pageThere", desc := "(II)I" } : Jvm.MethodName)) ∈ lw_good := am_in2 101 rfl rfl
set_option maxRecDepth 20000 in
theorem w_2_103 : (Jvm.Cond.instanceMethod ({ cls := "PagingKernel", name := "pageThere", desc := "(II)I" } : Jvm.MethodName)) ∈ lw_good := am_in2 103 rfl rfl
set_option maxRecDepth 20000 in
theorem w_2_104 : (Jvm.Cond.code ({ cls := "PagingKernel", name := "pageThere", desc := "(II)I" } : Jvm.MethodName) prog_1_method_20_code (4 : Nat) (Option.some Jvm.ClassFile.FieldType.int)) ∈ lw_good := am_in2 104 rfl rfl
set_option maxRecDepth 20000 in
theorem w_2_105 : (Jvm.Cond.classLink "PagingKernel" (167 : Nat) "java/lang/IndexOutOfBoundsException") ∈ lw_good := am_in2 105 rfl rfl
set_option maxRecDepth 20000 in
theorem w_2_106 : (Jvm.Cond.instantiable "java/lang/IndexOutOfBoundsException" (6 : Nat)) ∈ lw_good := am_in2 106 rfl rfl
set_option maxRecDepth 20000 in
theorem w_2_108 : (Jvm.Cond.selects "java/lang/IndexOutOfBoundsException" ({ cls := "java/lang/Throwable", name := "fillInStackTrace", desc := "(I)Ljava/lang/Throwable;" } : Jvm.MethodName) ({ cls := "java/lang/Throwable", name := "fillInStackTrace", desc := "(I)Ljava/lang/Throwable;" } : Jvm.MethodName)) ∈ lw_good := am_in2 108 rfl rfl
set_option maxRecDepth 20000 in
theorem w_2_109 : (Jvm.Cond.lays "java/lang/IndexOutOfBoundsException" "java/lang/Throwable" "cause" "Ljava/lang/Throwable;") ∈ lw_good := am_in2 109 rfl rfl
set_option maxRecDepth 20000 in
theorem w_2_110 : (Jvm.Cond.lays "java/lang/IndexOutOfBoundsException" "java/lang/Throwable" "stackTrace" "[Ljava/lang/StackTraceElement;") ∈ lw_good := am_in2 110 rfl rfl
set_option maxRecDepth 20000 in
theorem w_2_111 : (Jvm.Cond.lays "java/lang/IndexOutOfBoundsException" "java/lang/Throwable" "suppressedExceptions" "Ljava/util/List;") ∈ lw_good := am_in2 111 rfl rfl
set_option maxRecDepth 20000 in
theorem w_2_112 : (Jvm.Cond.lays "java/lang/IndexOutOfBoundsException" "java/lang/Throwable" "detailMessage" "Ljava/lang/String;") ∈ lw_good := am_in2 112 rfl rfl
set_option maxRecDepth 20000 in
theorem w_2_113 : (Jvm.Cond.lays "java/lang/IndexOutOfBoundsException" "java/lang/Throwable" "backtrace" "Ljava/lang/Object;") ∈ lw_good := am_in2 113 rfl rfl
set_option maxRecDepth 20000 in
theorem w_2_114 : (Jvm.Cond.methodLink "PagingKernel" (169 : Nat) ({ cls := "java/lang/IndexOutOfBoundsException", name := "<init>", desc := "()V" } : Jvm.MethodName)) ∈ lw_good := am_in2 114 rfl rfl
set_option maxRecDepth 20000 in
theorem w_2_115 : (Jvm.Cond.instanceMethod ({ cls := "java/lang/IndexOutOfBoundsException", name := "<init>", desc := "()V" } : Jvm.MethodName)) ∈ lw_good := am_in2 115 rfl rfl
set_option maxRecDepth 20000 in
theorem w_2_116 : (Jvm.Cond.code ({ cls := "java/lang/IndexOutOfBoundsException", name := "<init>", desc := "()V" } : Jvm.MethodName) prog_8_method_1_code (1 : Nat) (Option.none : Option Jvm.ClassFile.FieldType)) ∈ lw_good := am_in2 116 rfl rfl
set_option maxRecDepth 20000 in
theorem w_2_117 : (Jvm.Cond.methodLink "java/lang/IndexOutOfBoundsException" (1 : Nat) ({ cls := "java/lang/RuntimeException", name := "<init>", desc := "()V" } : Jvm.MethodName)) ∈ lw_good := am_in2 117 rfl rfl
set_option maxRecDepth 20000 in
theorem w_2_120 : (Jvm.Cond.methodLink "PagingKernel" (106 : Nat) ({ cls := "PagingKernel$Memory", name := "touch", desc := "(I)Z" } : Jvm.MethodName)) ∈ lw_good := am_in2 120 rfl rfl
set_option maxRecDepth 20000 in
theorem w_2_121 : (Jvm.Cond.instanceMethod ({ cls := "PagingKernel$Memory", name := "touch", desc := "(I)Z" } : Jvm.MethodName)) ∈ lw_good := am_in2 121 rfl rfl
set_option maxRecDepth 20000 in
theorem w_2_122 : (Jvm.Cond.selects "PagingKernel$Memory" ({ cls := "PagingKernel$Memory", name := "touch", desc := "(I)Z" } : Jvm.MethodName) ({ cls := "PagingKernel$Memory", name := "touch", desc := "(I)Z" } : Jvm.MethodName)) ∈ lw_good := am_in2 122 rfl rfl
set_option maxRecDepth 20000 in
theorem w_2_123 : (Jvm.Cond.code ({ cls := "PagingKernel$Memory", name := "touch", desc := "(I)Z" } : Jvm.MethodName) prog_2_method_13_code (3 : Nat) (Option.some Jvm.ClassFile.FieldType.boolean)) ∈ lw_good := am_in2 123 rfl rfl
set_option maxRecDepth 20000 in
theorem w_2_124 : (Jvm.Cond.methodLink "PagingKernel$Memory" (62 : Nat) ({ cls := "PagingKernel$Memory", name := "getFrame", desc := "()I" } : Jvm.MethodName)) ∈ lw_good := am_in2 124 rfl rfl
set_option maxRecDepth 20000 in
theorem w_2_126 : (Jvm.Cond.instanceMethod ({ cls := "PagingKernel$Memory", name := "getFrame", desc := "()I" } : Jvm.MethodName)) ∈ lw_good := am_in2 126 rfl rfl
set_option maxRecDepth 20000 in
theorem w_2_127 : (Jvm.Cond.code ({ cls := "PagingKernel$Memory", name := "getFrame", desc := "()I" } : Jvm.MethodName) prog_2_method_17_code (4 : Nat) (Option.some Jvm.ClassFile.FieldType.int)) ∈ lw_good := am_in2 127 rfl rfl
set_option maxRecDepth 20000 in
theorem w_2_128 : (Jvm.Cond.methodLink "PagingKernel$Memory" (91 : Nat) ({ cls := "PagingKernel$Memory", name := "leastFree", desc := "([I)I" } : Jvm.MethodName)) ∈ lw_good := am_in2 128 rfl rfl
set_option maxRecDepth 20000 in
theorem w_2_129 : (Jvm.Cond.static ({ cls := "PagingKernel$Memory", name := "leastFree", desc := "([I)I" } : Jvm.MethodName)) ∈ lw_good := am_in2 129 rfl rfl
set_option maxRecDepth 20000 in
theorem w_2_130 : (Jvm.Cond.code ({ cls := "PagingKernel$Memory", name := "leastFree", desc := "([I)I" } : Jvm.MethodName) prog_2_method_24_code (2 : Nat) (Option.some Jvm.ClassFile.FieldType.int)) ∈ lw_good := am_in2 130 rfl rfl
set_option maxRecDepth 20000 in
theorem w_2_131 : (Jvm.Cond.methodLink "PagingKernel$Memory" (94 : Nat) ({ cls := "PagingKernel$Memory", name := "lookAndMoveOn", desc := "()Z" } : Jvm.MethodName)) ∈ lw_good := am_in2 131 rfl rfl
set_option maxRecDepth 20000 in
theorem w_2_132 : (Jvm.Cond.instanceMethod ({ cls := "PagingKernel$Memory", name := "lookAndMoveOn", desc := "()Z" } : Jvm.MethodName)) ∈ lw_good := am_in2 132 rfl rfl
set_option maxRecDepth 20000 in
theorem w_2_133 : (Jvm.Cond.selects "PagingKernel$Memory" ({ cls := "PagingKernel$Memory", name := "lookAndMoveOn", desc := "()Z" } : Jvm.MethodName) ({ cls := "PagingKernel$Memory", name := "lookAndMoveOn", desc := "()Z" } : Jvm.MethodName)) ∈ lw_good := am_in2 133 rfl rfl
set_option maxRecDepth 20000 in
theorem w_2_134 : (Jvm.Cond.code ({ cls := "PagingKernel$Memory", name := "lookAndMoveOn", desc := "()Z" } : Jvm.MethodName) prog_2_method_15_code (3 : Nat) (Option.some Jvm.ClassFile.FieldType.boolean)) ∈ lw_good := am_in2 134 rfl rfl
set_option maxRecDepth 20000 in
theorem w_2_135 : (Jvm.Cond.methodLink "PagingKernel$Memory" (85 : Nat) ({ cls := "PagingKernel$Memory", name := "canGo", desc := "(I)Z" } : Jvm.MethodName)) ∈ lw_good := am_in2 135 rfl rfl
set_option maxRecDepth 20000 in
theorem w_2_137 : (Jvm.Cond.instanceMethod ({ cls := "PagingKernel$Memory", name := "canGo", desc := "(I)Z" } : Jvm.MethodName)) ∈ lw_good := am_in2 137 rfl rfl
set_option maxRecDepth 20000 in
theorem w_2_138 : (Jvm.Cond.code ({ cls := "PagingKernel$Memory", name := "canGo", desc := "(I)Z" } : Jvm.MethodName) prog_2_method_20_code (2 : Nat) (Option.some Jvm.ClassFile.FieldType.boolean)) ∈ lw_good := am_in2 138 rfl rfl
set_option maxRecDepth 20000 in
theorem w_2_139 : (Jvm.Cond.methodLink "PagingKernel$Memory" (98 : Nat) ({ cls := "PagingKernel$Memory", name := "isText", desc := "(I)Z" } : Jvm.MethodName)) ∈ lw_good := am_in2 139 rfl rfl
set_option maxRecDepth 20000 in
theorem w_2_140 : (Jvm.Cond.static ({ cls := "PagingKernel$Memory", name := "isText", desc := "(I)Z" } : Jvm.MethodName)) ∈ lw_good := am_in2 140 rfl rfl
set_option maxRecDepth 20000 in
theorem w_2_141 : (Jvm.Cond.code ({ cls := "PagingKernel$Memory", name := "isText", desc := "(I)Z" } : Jvm.MethodName) prog_2_method_19_code (1 : Nat) (Option.some Jvm.ClassFile.FieldType.boolean)) ∈ lw_good := am_in2 141 rfl rfl
set_option maxRecDepth 20000 in
theorem w_2_142 : (Jvm.Cond.methodLink "PagingKernel$Memory" (88 : Nat) ({ cls := "PagingKernel$Memory", name := "sendOut", desc := "(I)V" } : Jvm.MethodName)) ∈ lw_good := am_in2 142 rfl rfl
set_option maxRecDepth 20000 in
theorem w_2_144 : (Jvm.Cond.instanceMethod ({ cls := "PagingKernel$Memory", name := "sendOut", desc := "(I)V" } : Jvm.MethodName)) ∈ lw_good := am_in2 144 rfl rfl
set_option maxRecDepth 20000 in
theorem w_2_145 : (Jvm.Cond.code ({ cls := "PagingKernel$Memory", name := "sendOut", desc := "(I)V" } : Jvm.MethodName) prog_2_method_21_code (3 : Nat) (Option.none : Option Jvm.ClassFile.FieldType)) ∈ lw_good := am_in2 145 rfl rfl
set_option maxRecDepth 20000 in
theorem w_2_146 : (Jvm.Cond.methodLink "PagingKernel$Memory" (66 : Nat) ({ cls := "PagingKernel$Memory", name := "settle", desc := "(II)V" } : Jvm.MethodName)) ∈ lw_good := am_in2 146 rfl rfl
set_option maxRecDepth 20000 in
theorem w_2_148 : (Jvm.Cond.instanceMethod ({ cls := "PagingKernel$Memory", name := "settle", desc := "(II)V" } : Jvm.MethodName)) ∈ lw_good := am_in2 148 rfl rfl
set_option maxRecDepth 20000 in
theorem w_2_149 : (Jvm.Cond.code ({ cls := "PagingKernel$Memory", name := "settle", desc := "(II)V" } : Jvm.MethodName) prog_2_method_22_code (3 : Nat) (Option.none : Option Jvm.ClassFile.FieldType)) ∈ lw_good := am_in2 149 rfl rfl
set_option maxRecDepth 20000 in
theorem w_2_150 : (Jvm.Cond.methodLink "PagingKernel" (109 : Nat) ({ cls := "PagingKernel$Memory", name := "wordOf", desc := "(II)I" } : Jvm.MethodName)) ∈ lw_good := am_in2 150 rfl rfl
set_option maxRecDepth 20000 in
theorem w_2_151 : (Jvm.Cond.instanceMethod ({ cls := "PagingKernel$Memory", name := "wordOf", desc := "(II)I" } : Jvm.MethodName)) ∈ lw_good := am_in2 151 rfl rfl
set_option maxRecDepth 20000 in
theorem w_2_152 : (Jvm.Cond.selects "PagingKernel$Memory" ({ cls := "PagingKernel$Memory", name := "wordOf", desc := "(II)I" } : Jvm.MethodName) ({ cls := "PagingKernel$Memory", name := "wordOf", desc := "(II)I" } : Jvm.MethodName)) ∈ lw_good := am_in2 152 rfl rfl
set_option maxRecDepth 20000 in
theorem w_2_153 : (Jvm.Cond.code ({ cls := "PagingKernel$Memory", name := "wordOf", desc := "(II)I" } : Jvm.MethodName) prog_2_method_3_code (3 : Nat) (Option.some Jvm.ClassFile.FieldType.int)) ∈ lw_good := am_in2 153 rfl rfl
set_option maxRecDepth 20000 in
theorem w_2_154 : (Jvm.Cond.methodLink "PagingKernelLaw" (97 : Nat) ({ cls := "PagingKernelLaw", name := "write", desc := "(LPagingKernel;III[J)I" } : Jvm.MethodName)) ∈ lw_good := am_in2 154 rfl rfl
set_option maxRecDepth 20000 in
theorem w_2_155 : (Jvm.Cond.static ({ cls := "PagingKernelLaw", name := "write", desc := "(LPagingKernel;III[J)I" } : Jvm.MethodName)) ∈ lw_good := am_in2 155 rfl rfl
set_option maxRecDepth 20000 in
theorem w_2_156 : (Jvm.Cond.codeWith ({ cls := "PagingKernelLaw", name := "write", desc := "(LPagingKernel;III[J)I" } : Jvm.MethodName) method_9_code (6 : Nat) (Option.some Jvm.ClassFile.FieldType.int) [((0 : Nat), (12 : Nat), (15 : Nat), (13 : Nat)), ((0 : Nat), (12 : Nat), (19 : Nat), (15 : Nat)), ((0 : Nat), (12 : Nat), (23 : Nat), (37 : Nat)), ((0 : Nat), (12 : Nat), (27 : Nat), (17 : Nat)), ((0 : Nat), (12 : Nat), (31 : Nat), (29 : Nat))]) ∈ lw_good := am_in2 156 rfl rfl
set_option maxRecDepth 20000 in
theorem w_2_157 : (Jvm.Cond.methodLink "PagingKernelLaw" (39 : Nat) ({ cls := "PagingKernel", name := "write", desc := "(III)I" } : Jvm.MethodName)) ∈ lw_good := am_in2 157 rfl rfl
set_option maxRecDepth 20000 in
theorem w_2_158 : (Jvm.Cond.instanceMethod ({ cls := "PagingKernel", name := "write", desc := "(III)I" } : Jvm.MethodName)) ∈ lw_good := am_in2 158 rfl rfl
set_option maxRecDepth 20000 in
theorem w_2_159 : (Jvm.Cond.selects "PagingKernel" ({ cls := "PagingKernel", name := "write", desc := "(III)I" } : Jvm.MethodName) ({ cls := "PagingKernel", name := "write", desc := "(III)I" } : Jvm.MethodName)) ∈ lw_good := am_in2 159 rfl rfl
set_option maxRecDepth 20000 in
theorem w_2_160 : (Jvm.Cond.code ({ cls := "PagingKernel", name := "write", desc := "(III)I" } : Jvm.MethodName) prog_1_method_8_code (7 : Nat) (Option.some Jvm.ClassFile.FieldType.int)) ∈ lw_good := am_in2 160 rfl rfl
set_option maxRecDepth 20000 in
theorem w_2_161 : (Jvm.Cond.methodLink "PagingKernel" (112 : Nat) ({ cls := "PagingKernel$Memory", name := "touchOwn", desc := "(I)I" } : Jvm.MethodName)) ∈ lw_good := am_in2 161 rfl rfl
set_option maxRecDepth 20000 in
theorem w_2_162 : (Jvm.Cond.instanceMethod ({ cls := "PagingKernel$Memory", name := "touchOwn", desc := "(I)I" } : Jvm.MethodName)) ∈ lw_good := am_in2 162 rfl rfl
set_option maxRecDepth 20000 in
theorem w_2_163 : (Jvm.Cond.selects "PagingKernel$Memory" ({ cls := "PagingKernel$Memory", name := "touchOwn", desc := "(I)I" } : Jvm.MethodName) ({ cls := "PagingKernel$Memory", name := "touchOwn", desc := "(I)I" } : Jvm.MethodName)) ∈ lw_good := am_in2 163 rfl rfl
set_option maxRecDepth 20000 in
theorem w_2_164 : (Jvm.Cond.code ({ cls := "PagingKernel$Memory", name := "touchOwn", desc := "(I)I" } : Jvm.MethodName) prog_2_method_14_code (4 : Nat) (Option.some Jvm.ClassFile.FieldType.int)) ∈ lw_good := am_in2 164 rfl rfl
set_option maxRecDepth 20000 in
theorem w_2_165 : (Jvm.Cond.methodLink "PagingKernel$Memory" (70 : Nat) ({ cls := "PagingKernel$Memory", name := "touch", desc := "(I)Z" } : Jvm.MethodName)) ∈ lw_good := am_in2 165 rfl rfl
set_option maxRecDepth 20000 in
theorem w_2_166 : (Jvm.Cond.methodLink "PagingKernel$Memory" (73 : Nat) ({ cls := "PagingKernel$Memory", name := "newPage", desc := "()I" } : Jvm.MethodName)) ∈ lw_good := am_in2 166 rfl rfl
set_option maxRecDepth 20000 in
theorem w_2_167 : (Jvm.Cond.methodLink "PagingKernel$Memory" (76 : Nat) ({ cls := "java/lang/System", name := "arraycopy", desc := "(Ljava/lang/Object;ILjava/lang/Object;II)V" } : Jvm.MethodName)) ∈ lw_good := am_in2 167 rfl rfl
set_option maxRecDepth 20000 in
theorem w_2_168 : (Jvm.Cond.static ({ cls := "java/lang/System", name := "arraycopy", desc := "(Ljava/lang/Object;ILjava/lang/Object;II)V" } : Jvm.MethodName)) ∈ lw_good := am_in2 168 rfl rfl
set_option maxRecDepth 20000 in
theorem w_2_169 : (Jvm.Cond.native ({ cls := "java/lang/System", name := "arraycopy", desc := "(Ljava/lang/Object;ILjava/lang/Object;II)V" } : Jvm.MethodName)) ∈ lw_good := am_in2 169 rfl rfl
set_option maxRecDepth 20000 in
theorem w_2_170 : (Jvm.Cond.methodLink "PagingKernel$Memory" (82 : Nat) ({ cls := "PagingKernel$Memory", name := "leave", desc := "(I)V" } : Jvm.MethodName)) ∈ lw_good := am_in2 170 rfl rfl
set_option maxRecDepth 20000 in
theorem w_2_171 : (Jvm.Cond.methodLink "PagingKernel" (115 : Nat) ({ cls := "PagingKernel$Memory", name := "replaceWord", desc := "(III)I" } : Jvm.MethodName)) ∈ lw_good := am_in2 171 rfl rfl
set_option maxRecDepth 20000 in
theorem w_2_172 : (Jvm.Cond.instanceMethod ({ cls := "PagingKernel$Memory", name := "replaceWord", desc := "(III)I" } : Jvm.MethodName)) ∈ lw_good := am_in2 172 rfl rfl
set_option maxRecDepth 20000 in
theorem w_2_173 : (Jvm.Cond.selects "PagingKernel$Memory" ({ cls := "PagingKernel$Memory", name := "replaceWord", desc := "(III)I" } : Jvm.MethodName) ({ cls := "PagingKernel$Memory", name := "replaceWord", desc := "(III)I" } : Jvm.MethodName)) ∈ lw_good := am_in2 173 rfl rfl
set_option maxRecDepth 20000 in
theorem w_2_174 : (Jvm.Cond.code ({ cls := "PagingKernel$Memory", name := "replaceWord", desc := "(III)I" } : Jvm.MethodName) prog_2_method_4_code (5 : Nat) (Option.some Jvm.ClassFile.FieldType.int)) ∈ lw_good := am_in2 174 rfl rfl
set_option maxRecDepth 20000 in
theorem w_2_175 : (Jvm.Cond.methodLink "PagingKernelLaw" (101 : Nat) ({ cls := "PagingKernelLaw", name := "sweep", desc := "(LPagingKernel;I[J)I" } : Jvm.MethodName)) ∈ lw_good := am_in2 175 rfl rfl
set_option maxRecDepth 20000 in
theorem w_2_176 : (Jvm.Cond.static ({ cls := "PagingKernelLaw", name := "sweep", desc := "(LPagingKernel;I[J)I" } : Jvm.MethodName)) ∈ lw_good := am_in2 176 rfl rfl
set_option maxRecDepth 20000 in
theorem w_2_177 : (Jvm.Cond.codeWith ({ cls := "PagingKernelLaw", name := "sweep", desc := "(LPagingKernel;I[J)I" } : Jvm.MethodName) method_10_code (4 : Nat) (Option.some Jvm.ClassFile.FieldType.int) [((0 : Nat), (9 : Nat), (12 : Nat), (13 : Nat))]) ∈ lw_good := am_in2 177 rfl rfl
set_option maxRecDepth 20000 in
theorem w_2_178 : (Jvm.Cond.methodLink "PagingKernelLaw" (43 : Nat) ({ cls := "PagingKernel", name := "sweep", desc := "(I)I" } : Jvm.MethodName)) ∈ lw_good := am_in2 178 rfl rfl
set_option maxRecDepth 20000 in
theorem w_2_179 : (Jvm.Cond.instanceMethod ({ cls := "PagingKernel", name := "sweep", desc := "(I)I" } : Jvm.MethodName)) ∈ lw_good := am_in2 179 rfl rfl
set_option maxRecDepth 20000 in
theorem w_2_180 : (Jvm.Cond.selects "PagingKernel" ({ cls := "PagingKernel", name := "sweep", desc := "(I)I" } : Jvm.MethodName) ({ cls := "PagingKernel", name := "sweep", desc := "(I)I" } : Jvm.MethodName)) ∈ lw_good := am_in2 180 rfl rfl
set_option maxRecDepth 20000 in
theorem w_2_181 : (Jvm.Cond.code ({ cls := "PagingKernel", name := "sweep", desc := "(I)I" } : Jvm.MethodName) prog_1_method_9_code (4 : Nat) (Option.some Jvm.ClassFile.FieldType.int)) ∈ lw_good := am_in2 181 rfl rfl
set_option maxRecDepth 20000 in
theorem w_2_182 : (Jvm.Cond.methodLink "PagingKernel" (118 : Nat) ({ cls := "PagingKernel$Memory", name := "lookAndMoveOn", desc := "()Z" } : Jvm.MethodName)) ∈ lw_good := am_in2 182 rfl rfl
set_option maxRecDepth 20000 in
theorem w_2_183 : (Jvm.Cond.methodLink "PagingKernelLaw" (104 : Nat) ({ cls := "PagingKernelLaw", name := "swapOut", desc := "(LPagingKernel;I[J)I" } : Jvm.MethodName)) ∈ lw_good := am_in2 183 rfl rfl
set_option maxRecDepth 20000 in
theorem w_2_184 : (Jvm.Cond.static ({ cls := "PagingKernelLaw", name := "swapOut", desc := "(LPagingKernel;I[J)I" } : Jvm.MethodName)) ∈ lw_good := am_in2 184 rfl rfl
set_option maxRecDepth 20000 in
theorem w_2_185 : (Jvm.Cond.codeWith ({ cls := "PagingKernelLaw", name := "swapOut", desc := "(LPagingKernel;I[J)I" } : Jvm.MethodName) method_11_code (4 : Nat) (Option.some Jvm.ClassFile.FieldType.int) [((0 : Nat), (9 : Nat), (12 : Nat), (13 : Nat)), ((0 : Nat), (9 : Nat), (15 : Nat), (15 : Nat))]) ∈ lw_good := am_in2 185 rfl rfl
set_option maxRecDepth 20000 in
theorem w_2_186 : (Jvm.Cond.methodLink "PagingKernelLaw" (46 : Nat) ({ cls := "PagingKernel", name := "swapOut", desc := "(I)I" } : Jvm.MethodName)) ∈ lw_good := am_in2 186 rfl rfl
set_option maxRecDepth 20000 in
theorem w_2_187 : (Jvm.Cond.instanceMethod ({ cls := "PagingKernel", name := "swapOut", desc := "(I)I" } : Jvm.MethodName)) ∈ lw_good := am_in2 187 rfl rfl
set_option maxRecDepth 20000 in
theorem w_2_188 : (Jvm.Cond.selects "PagingKernel" ({ cls := "PagingKernel", name := "swapOut", desc := "(I)I" } : Jvm.MethodName) ({ cls := "PagingKernel", name := "swapOut", desc := "(I)I" } : Jvm.MethodName)) ∈ lw_good := am_in2 188 rfl rfl
set_option maxRecDepth 20000 in
theorem w_2_189 : (Jvm.Cond.code ({ cls := "PagingKernel", name := "swapOut", desc := "(I)I" } : Jvm.MethodName) prog_1_method_10_code (5 : Nat) (Option.some Jvm.ClassFile.FieldType.int)) ∈ lw_good := am_in2 189 rfl rfl
set_option maxRecDepth 20000 in
theorem w_2_190 : (Jvm.Cond.methodLink "PagingKernel" (122 : Nat) ({ cls := "PagingKernel$Memory", name := "sendOutIfUnshared", desc := "(I)Z" } : Jvm.MethodName)) ∈ lw_good := am_in2 190 rfl rfl
set_option maxRecDepth 20000 in
theorem w_2_191 : (Jvm.Cond.instanceMethod ({ cls := "PagingKernel$Memory", name := "sendOutIfUnshared", desc := "(I)Z" } : Jvm.MethodName)) ∈ lw_good := am_in2 191 rfl rfl
set_option maxRecDepth 20000 in
theorem w_2_192 : (Jvm.Cond.selects "PagingKernel$Memory" ({ cls := "PagingKernel$Memory", name := "sendOutIfUnshared", desc := "(I)Z" } : Jvm.MethodName) ({ cls := "PagingKernel$Memory", name := "sendOutIfUnshared", desc := "(I)Z" } : Jvm.MethodName)) ∈ lw_good := am_in2 192 rfl rfl
set_option maxRecDepth 20000 in
theorem w_2_193 : (Jvm.Cond.code ({ cls := "PagingKernel$Memory", name := "sendOutIfUnshared", desc := "(I)Z" } : Jvm.MethodName) prog_2_method_16_code (3 : Nat) (Option.some Jvm.ClassFile.FieldType.boolean)) ∈ lw_good := am_in2 193 rfl rfl
set_option maxRecDepth 20000 in
theorem w_2_194 : (Jvm.Cond.methodLink "PagingKernelLaw" (107 : Nat) ({ cls := "PagingKernelLaw", name := "where", desc := "(LPagingKernel;II[J)I" } : Jvm.MethodName)) ∈ lw_good := am_in2 194 rfl rfl
set_option maxRecDepth 20000 in
theorem w_2_195 : (Jvm.Cond.static ({ cls := "PagingKernelLaw", name := "where", desc := "(LPagingKernel;II[J)I" } : Jvm.MethodName)) ∈ lw_good := am_in2 195 rfl rfl
set_option maxRecDepth 20000 in
theorem w_2_196 : (Jvm.Cond.codeWith ({ cls := "PagingKernelLaw", name := "where", desc := "(LPagingKernel;II[J)I" } : Jvm.MethodName) method_12_code (5 : Nat) (Option.some Jvm.ClassFile.FieldType.int) [((0 : Nat), (10 : Nat), (13 : Nat), (13 : Nat)), ((0 : Nat), (10 : Nat), (17 : Nat), (15 : Nat)), ((0 : Nat), (10 : Nat), (21 : Nat), (37 : Nat))]) ∈ lw_good := am_in2 196 rfl rfl
set_option maxRecDepth 20000 in
theorem w_2_197 : (Jvm.Cond.methodLink "PagingKernelLaw" (49 : Nat) ({ cls := "PagingKernel", name := "where", desc := "(II)I" } : Jvm.MethodName)) ∈ lw_good := am_in2 197 rfl rfl
set_option maxRecDepth 20000 in
theorem w_2_198 : (Jvm.Cond.instanceMethod ({ cls := "PagingKernel", name := "where", desc := "(II)I" } : Jvm.MethodName)) ∈ lw_good := am_in2 198 rfl rfl
set_option maxRecDepth 20000 in
theorem w_2_199 : (Jvm.Cond.selects "PagingKernel" ({ cls := "PagingKernel", name := "where", desc := "(II)I" } : Jvm.MethodName) ({ cls := "PagingKernel", name := "where", desc := "(II)I" } : Jvm.MethodName)) ∈ lw_good := am_in2 199 rfl rfl
set_option maxRecDepth 20000 in
theorem w_2_200 : (Jvm.Cond.code ({ cls := "PagingKernel", name := "where", desc := "(II)I" } : Jvm.MethodName) prog_1_method_11_code (3 : Nat) (Option.some Jvm.ClassFile.FieldType.int)) ∈ lw_good := am_in2 200 rfl rfl
set_option maxRecDepth 20000 in
theorem w_2_201 : (Jvm.Cond.methodLink "PagingKernel" (125 : Nat) ({ cls := "PagingKernel$Memory", name := "homeOf", desc := "(I)I" } : Jvm.MethodName)) ∈ lw_good := am_in2 201 rfl rfl
set_option maxRecDepth 20000 in
theorem w_2_202 : (Jvm.Cond.instanceMethod ({ cls := "PagingKernel$Memory", name := "homeOf", desc := "(I)I" } : Jvm.MethodName)) ∈ lw_good := am_in2 202 rfl rfl
set_option maxRecDepth 20000 in
theorem w_2_203 : (Jvm.Cond.selects "PagingKernel$Memory" ({ cls := "PagingKernel$Memory", name := "homeOf", desc := "(I)I" } : Jvm.MethodName) ({ cls := "PagingKernel$Memory", name := "homeOf", desc := "(I)I" } : Jvm.MethodName)) ∈ lw_good := am_in2 203 rfl rfl
set_option maxRecDepth 20000 in
theorem w_2_204 : (Jvm.Cond.code ({ cls := "PagingKernel$Memory", name := "homeOf", desc := "(I)I" } : Jvm.MethodName) prog_2_method_5_code (2 : Nat) (Option.some Jvm.ClassFile.FieldType.int)) ∈ lw_good := am_in2 204 rfl rfl
set_option maxRecDepth 20000 in
theorem w_2_205 : (Jvm.Cond.methodLink "PagingKernelLaw" (110 : Nat) ({ cls := "PagingKernelLaw", name := "sharers", desc := "(LPagingKernel;II[J)I" } : Jvm.MethodName)) ∈ lw_good := am_in2 205 rfl rfl
set_option maxRecDepth 20000 in
theorem w_2_206 : (Jvm.Cond.static ({ cls := "PagingKernelLaw", name := "sharers", desc := "(LPagingKernel;II[J)I" } : Jvm.MethodName)) ∈ lw_good := am_in2 206 rfl rfl
set_option maxRecDepth 20000 in
theorem w_2_207 : (Jvm.Cond.codeWith ({ cls := "PagingKernelLaw", name := "sharers", desc := "(LPagingKernel;II[J)I" } : Jvm.MethodName) method_13_code (5 : Nat) (Option.some Jvm.ClassFile.FieldType.int) [((0 : Nat), (10 : Nat), (13 : Nat), (13 : Nat)), ((0 : Nat), (10 : Nat), (17 : Nat), (15 : Nat)), ((0 : Nat), (10 : Nat), (21 : Nat), (37 : Nat))]) ∈ lw_good := am_in2 207 rfl rfl
set_option maxRecDepth 20000 in
theorem w_2_208 : (Jvm.Cond.methodLink "PagingKernelLaw" (52 : Nat) ({ cls := "PagingKernel", name := "sharers", desc := "(II)I" } : Jvm.MethodName)) ∈ lw_good := am_in2 208 rfl rfl
set_option maxRecDepth 20000 in
theorem w_2_209 : (Jvm.Cond.instanceMethod ({ cls := "PagingKernel", name := "sharers", desc := "(II)I" } : Jvm.MethodName)) ∈ lw_good := am_in2 209 rfl rfl
set_option maxRecDepth 20000 in
theorem w_2_210 : (Jvm.Cond.selects "PagingKernel" ({ cls := "PagingKernel", name := "sharers", desc := "(II)I" } : Jvm.MethodName) ({ cls := "PagingKernel", name := "sharers", desc := "(II)I" } : Jvm.MethodName)) ∈ lw_good := am_in2 210 rfl rfl
set_option maxRecDepth 20000 in
theorem w_2_211 : (Jvm.Cond.code ({ cls := "PagingKernel", name := "sharers", desc := "(II)I" } : Jvm.MethodName) prog_1_method_12_code (3 : Nat) (Option.some Jvm.ClassFile.FieldType.int)) ∈ lw_good := am_in2 211 rfl rfl
set_option maxRecDepth 20000 in
theorem w_2_212 : (Jvm.Cond.methodLink "PagingKernel" (128 : Nat) ({ cls := "PagingKernel$Memory", name := "usersOf", desc := "(I)I" } : Jvm.MethodName)) ∈ lw_good := am_in2 212 rfl rfl
set_option maxRecDepth 20000 in
theorem w_2_213 : (Jvm.Cond.instanceMethod ({ cls := "PagingKernel$Memory", name := "usersOf", desc := "(I)I" } : Jvm.MethodName)) ∈ lw_good := am_in2 213 rfl rfl
set_option maxRecDepth 20000 in
theorem w_2_214 : (Jvm.Cond.selects "PagingKernel$Memory" ({ cls := "PagingKernel$Memory", name := "usersOf", desc := "(I)I" } : Jvm.MethodName) ({ cls := "PagingKernel$Memory", name := "usersOf", desc := "(I)I" } : Jvm.MethodName)) ∈ lw_good := am_in2 214 rfl rfl
set_option maxRecDepth 20000 in
theorem w_2_215 : (Jvm.Cond.code ({ cls := "PagingKernel$Memory", name := "usersOf", desc := "(I)I" } : Jvm.MethodName) prog_2_method_6_code (2 : Nat) (Option.some Jvm.ClassFile.FieldType.int)) ∈ lw_good := am_in2 215 rfl rfl
set_option maxRecDepth 20000 in
theorem w_2_216 : (Jvm.Cond.methodLink "PagingKernelLaw" (113 : Nat) ({ cls := "PagingKernelLaw", name := "fact", desc := "(LPagingKernel;II[J)I" } : Jvm.MethodName)) ∈ lw_good := am_in2 216 rfl rfl
set_option maxRecDepth 20000 in
theorem w_2_217 : (Jvm.Cond.static ({ cls := "PagingKernelLaw", name := "fact", desc := "(LPagingKernel;II[J)I" } : Jvm.MethodName)) ∈ lw_good := am_in2 217 rfl rfl
set_option maxRecDepth 20000 in
theorem w_2_218 : (Jvm.Cond.codeWith ({ cls := "PagingKernelLaw", name := "fact", desc := "(LPagingKernel;II[J)I" } : Jvm.MethodName) method_14_code (5 : Nat) (Option.some Jvm.ClassFile.FieldType.int) [((0 : Nat), (10 : Nat), (13 : Nat), (13 : Nat))]) ∈ lw_good := am_in2 218 rfl rfl
set_option maxRecDepth 20000 in
theorem w_2_219 : (Jvm.Cond.methodLink "PagingKernelLaw" (55 : Nat) ({ cls := "PagingKernel", name := "fact", desc := "(II)I" } : Jvm.MethodName)) ∈ lw_good := am_in2 219 rfl rfl
set_option maxRecDepth 20000 in
theorem w_2_220 : (Jvm.Cond.instanceMethod ({ cls := "PagingKernel", name := "fact", desc := "(II)I" } : Jvm.MethodName)) ∈ lw_good := am_in2 220 rfl rfl
set_option maxRecDepth 20000 in
theorem w_2_221 : (Jvm.Cond.selects "PagingKernel" ({ cls := "PagingKernel", name := "fact", desc := "(II)I" } : Jvm.MethodName) ({ cls := "PagingKernel", name := "fact", desc := "(II)I" } : Jvm.MethodName)) ∈ lw_good := am_in2 221 rfl rfl
set_option maxRecDepth 20000 in
theorem w_2_222 : (Jvm.Cond.code ({ cls := "PagingKernel", name := "fact", desc := "(II)I" } : Jvm.MethodName) prog_1_method_13_code (3 : Nat) (Option.some Jvm.ClassFile.FieldType.int)) ∈ lw_good := am_in2 222 rfl rfl
set_option maxRecDepth 20000 in
theorem w_2_223 : (Jvm.Cond.methodLink "PagingKernelLaw" (116 : Nat) ({ cls := "PagingKernelLaw", name := "count", desc := "(LPagingKernel;I[J)I" } : Jvm.MethodName)) ∈ lw_good := am_in2 223 rfl rfl
set_option maxRecDepth 20000 in
theorem w_2_224 : (Jvm.Cond.static ({ cls := "PagingKernelLaw", name := "count", desc := "(LPagingKernel;I[J)I" } : Jvm.MethodName)) ∈ lw_good := am_in2 224 rfl rfl
set_option maxRecDepth 20000 in
theorem w_2_225 : (Jvm.Cond.codeWith ({ cls := "PagingKernelLaw", name := "count", desc := "(LPagingKernel;I[J)I" } : Jvm.MethodName) method_15_code (4 : Nat) (Option.some Jvm.ClassFile.FieldType.int) [((0 : Nat), (9 : Nat), (12 : Nat), (13 : Nat))]) ∈ lw_good := am_in2 225 rfl rfl
set_option maxRecDepth 20000 in
theorem w_2_226 : (Jvm.Cond.methodLink "PagingKernelLaw" (58 : Nat) ({ cls := "PagingKernel", name := "count", desc := "(I)I" } : Jvm.MethodName)) ∈ lw_good := am_in2 226 rfl rfl
set_option maxRecDepth 20000 in
theorem w_2_227 : (Jvm.Cond.instanceMethod ({ cls := "PagingKernel", name := "count", desc := "(I)I" } : Jvm.MethodName)) ∈ lw_good := am_in2 227 rfl rfl
set_option maxRecDepth 20000 in
theorem w_2_228 : (Jvm.Cond.selects "PagingKernel" ({ cls := "PagingKernel", name := "count", desc := "(I)I" } : Jvm.MethodName) ({ cls := "PagingKernel", name := "count", desc := "(I)I" } : Jvm.MethodName)) ∈ lw_good := am_in2 228 rfl rfl
set_option maxRecDepth 20000 in
theorem w_2_229 : (Jvm.Cond.code ({ cls := "PagingKernel", name := "count", desc := "(I)I" } : Jvm.MethodName) prog_1_method_14_code (2 : Nat) (Option.some Jvm.ClassFile.FieldType.int)) ∈ lw_good := am_in2 229 rfl rfl
set_option maxRecDepth 20000 in
theorem w_2_230 : (Jvm.Cond.methodLink "PagingKernel" (131 : Nat) ({ cls := "PagingKernel$Memory", name := "freeFrames", desc := "()I" } : Jvm.MethodName)) ∈ lw_good := am_in2 230 rfl rfl
set_option maxRecDepth 20000 in
theorem w_2_231 : (Jvm.Cond.instanceMethod ({ cls := "PagingKernel$Memory", name := "freeFrames", desc := "()I" } : Jvm.MethodName)) ∈ lw_good := am_in2 231 rfl rfl
set_option maxRecDepth 20000 in
theorem w_2_232 : (Jvm.Cond.selects "PagingKernel$Memory" ({ cls := "PagingKernel$Memory", name := "freeFrames", desc := "()I" } : Jvm.MethodName) ({ cls := "PagingKernel$Memory", name := "freeFrames", desc := "()I" } : Jvm.MethodName)) ∈ lw_good := am_in2 232 rfl rfl
set_option maxRecDepth 20000 in
theorem w_2_233 : (Jvm.Cond.code ({ cls := "PagingKernel$Memory", name := "freeFrames", desc := "()I" } : Jvm.MethodName) prog_2_method_7_code (1 : Nat) (Option.some Jvm.ClassFile.FieldType.int)) ∈ lw_good := am_in2 233 rfl rfl
set_option maxRecDepth 20000 in
theorem w_2_234 : (Jvm.Cond.methodLink "PagingKernel$Memory" (50 : Nat) ({ cls := "PagingKernel$Memory", name := "howManyFree", desc := "([I)I" } : Jvm.MethodName)) ∈ lw_good := am_in2 234 rfl rfl
set_option maxRecDepth 20000 in
theorem w_2_235 : (Jvm.Cond.static ({ cls := "PagingKernel$Memory", name := "howManyFree", desc := "([I)I" } : Jvm.MethodName)) ∈ lw_good := am_in2 235 rfl rfl
set_option maxRecDepth 20000 in
theorem w_2_236 : (Jvm.Cond.code ({ cls := "PagingKernel$Memory", name := "howManyFree", desc := "([I)I" } : Jvm.MethodName) prog_2_method_25_code (3 : Nat) (Option.some Jvm.ClassFile.FieldType.int)) ∈ lw_good := am_in2 236 rfl rfl
set_option maxRecDepth 20000 in
theorem w_2_237 : (Jvm.Cond.methodLink "PagingKernel" (134 : Nat) ({ cls := "PagingKernel$Memory", name := "freeSlots", desc := "()I" } : Jvm.MethodName)) ∈ lw_good := am_in2 237 rfl rfl
set_option maxRecDepth 20000 in
theorem w_2_238 : (Jvm.Cond.instanceMethod ({ cls := "PagingKernel$Memory", name := "freeSlots", desc := "()I" } : Jvm.MethodName)) ∈ lw_good := am_in2 238 rfl rfl
set_option maxRecDepth 20000 in
theorem w_2_239 : (Jvm.Cond.selects "PagingKernel$Memory" ({ cls := "PagingKernel$Memory", name := "freeSlots", desc := "()I" } : Jvm.MethodName) ({ cls := "PagingKernel$Memory", name := "freeSlots", desc := "()I" } : Jvm.MethodName)) ∈ lw_good := am_in2 239 rfl rfl
set_option maxRecDepth 20000 in
theorem w_3_0 : (Jvm.Cond.code ({ cls := "PagingKernel$Memory", name := "freeSlots", desc := "()I" } : Jvm.MethodName) prog_2_method_8_code (1 : Nat) (Option.some Jvm.ClassFile.FieldType.int)) ∈ lw_good := am_in3 0 rfl rfl
set_option maxRecDepth 20000 in
theorem w_3_1 : (Jvm.Cond.methodLink "PagingKernel" (150 : Nat) ({ cls := "PagingKernel$Memory", name := "markOf", desc := "(I)I" } : Jvm.MethodName)) ∈ lw_good := am_in3 1 rfl rfl
set_option maxRecDepth 20000 in
theorem w_3_2 : (Jvm.Cond.instanceMethod ({ cls := "PagingKernel$Memory", name := "markOf", desc := "(I)I" } : Jvm.MethodName)) ∈ lw_good := am_in3 2 rfl rfl
set_option maxRecDepth 20000 in
theorem w_3_3 : (Jvm.Cond.selects "PagingKernel$Memory" ({ cls := "PagingKernel$Memory", name := "markOf", desc := "(I)I" } : Jvm.MethodName) ({ cls := "PagingKernel$Memory", name := "markOf", desc := "(I)I" } : Jvm.MethodName)) ∈ lw_good := am_in3 3 rfl rfl
set_option maxRecDepth 20000 in
theorem w_3_4 : (Jvm.Cond.code ({ cls := "PagingKernel$Memory", name := "markOf", desc := "(I)I" } : Jvm.MethodName) prog_2_method_9_code (2 : Nat) (Option.some Jvm.ClassFile.FieldType.int)) ∈ lw_good := am_in3 4 rfl rfl
set_option maxRecDepth 20000 in
theorem w_3_5 : (Jvm.Cond.classLink "PagingKernelLaw" (70 : Nat) "PagingKernelModel") ∈ lw_good := am_in3 5 rfl rfl
set_option maxRecDepth 20000 in
theorem w_3_6 : (Jvm.Cond.instantiable "PagingKernelModel" (20 : Nat)) ∈ lw_good := am_in3 6 rfl rfl
set_option maxRecDepth 20000 in
theorem w_3_7 : (Jvm.Cond.methodLink "PagingKernelLaw" (72 : Nat) ({ cls := "PagingKernelModel", name := "<init>", desc := "(II)V" } : Jvm.MethodName)) ∈ lw_good := am_in3 7 rfl rfl
set_option maxRecDepth 20000 in
theorem w_3_8 : (Jvm.Cond.instanceMethod ({ cls := "PagingKernelModel", name := "<init>", desc := "(II)V" } : Jvm.MethodName)) ∈ lw_good := am_in3 8 rfl rfl
set_option maxRecDepth 20000 in
theorem w_3_9 : (Jvm.Cond.code ({ cls := "PagingKernelModel", name := "<init>", desc := "(II)V" } : Jvm.MethodName) prog_4_method_1_code (4 : Nat) (Option.none : Option Jvm.ClassFile.FieldType)) ∈ lw_good := am_in3 9 rfl rfl
set_option maxRecDepth 20000 in
theorem w_3_10 : (Jvm.Cond.methodLink "PagingKernelModel" (1 : Nat) ({ cls := "java/lang/Object", name := "<init>", desc := "()V" } : Jvm.MethodName)) ∈ lw_good := am_in3 10 rfl rfl
set_option maxRecDepth 20000 in
theorem w_3_11 : (Jvm.Cond.methodLink "PagingKernelModel" (57 : Nat) ({ cls := "PagingKernelModel", name := "begin", desc := "(II)V" } : Jvm.MethodName)) ∈ lw_good := am_in3 11 rfl rfl
set_option maxRecDepth 20000 in
theorem w_3_13 : (Jvm.Cond.instanceMethod ({ cls := "PagingKernelModel", name := "begin", desc := "(II)V" } : Jvm.MethodName)) ∈ lw_good := am_in3 13 rfl rfl
set_option maxRecDepth 20000 in
theorem w_3_14 : (Jvm.Cond.code ({ cls := "PagingKernelModel", name := "begin", desc := "(II)V" } : Jvm.MethodName) prog_4_method_10_code (4 : Nat) (Option.none : Option Jvm.ClassFile.FieldType)) ∈ lw_good := am_in3 14 rfl rfl
set_option maxRecDepth 20000 in
theorem w_3_15 : (Jvm.Cond.methodLink "PagingKernelModel" (72 : Nat) ({ cls := "PagingKernelModel", name := "newPage", desc := "()I" } : Jvm.MethodName)) ∈ lw_good := am_in3 15 rfl rfl
set_option maxRecDepth 20000 in
theorem w_3_17 : (Jvm.Cond.instanceMethod ({ cls := "PagingKernelModel", name := "newPage", desc := "()I" } : Jvm.MethodName)) ∈ lw_good := am_in3 17 rfl rfl
set_option maxRecDepth 20000 in
theorem w_3_18 : (Jvm.Cond.code ({ cls := "PagingKernelModel", name := "newPage", desc := "()I" } : Jvm.MethodName) prog_4_method_6_code (3 : Nat) (Option.some Jvm.ClassFile.FieldType.int)) ∈ lw_good := am_in3 18 rfl rfl
set_option maxRecDepth 20000 in
theorem w_3_19 : (Jvm.Cond.fieldLink "PagingKernelModel" (61 : Nat) "PagingKernelModel" "failed" "I") ∈ lw_good := am_in3 19 rfl rfl
set_option maxRecDepth 20000 in
theorem w_3_20 : (Jvm.Cond.fieldLink "PagingKernelModel" (50 : Nat) "PagingKernelModel" "frames" "I") ∈ lw_good := am_in3 20 rfl rfl
set_option maxRecDepth 20000 in
theorem w_3_21 : (Jvm.Cond.fieldLink "PagingKernelModel" (54 : Nat) "PagingKernelModel" "slots" "I") ∈ lw_good := am_in3 21 rfl rfl
set_option maxRecDepth 20000 in
theorem w_3_22 : (Jvm.Cond.fieldLink "PagingKernelModel" (7 : Nat) "PagingKernelModel" "status" "[I") ∈ lw_good := am_in3 22 rfl rfl
set_option maxRecDepth 20000 in
theorem w_3_23 : (Jvm.Cond.fieldLink "PagingKernelModel" (13 : Nat) "PagingKernelModel" "program" "[I") ∈ lw_good := am_in3 23 rfl rfl
set_option maxRecDepth 20000 in
theorem w_3_24 : (Jvm.Cond.fieldLink "PagingKernelModel" (16 : Nat) "PagingKernelModel" "parent" "[I") ∈ lw_good := am_in3 24 rfl rfl
set_option maxRecDepth 20000 in
theorem w_3_25 : (Jvm.Cond.fieldLink "PagingKernelModel" (19 : Nat) "PagingKernelModel" "code" "[I") ∈ lw_good := am_in3 25 rfl rfl
set_option maxRecDepth 20000 in
theorem w_3_26 : (Jvm.Cond.fieldLink "PagingKernelModel" (22 : Nat) "PagingKernelModel" "data" "[I") ∈ lw_good := am_in3 26 rfl rfl
set_option maxRecDepth 20000 in
theorem w_3_27 : (Jvm.Cond.fieldLink "PagingKernelModel" (25 : Nat) "PagingKernelModel" "stack" "[I") ∈ lw_good := am_in3 27 rfl rfl
set_option maxRecDepth 20000 in
theorem w_3_28 : (Jvm.Cond.fieldLink "PagingKernelModel" (28 : Nat) "PagingKernelModel" "place" "[I") ∈ lw_good := am_in3 28 rfl rfl
set_option maxRecDepth 20000 in
theorem w_3_29 : (Jvm.Cond.fieldLink "PagingKernelModel" (31 : Nat) "PagingKernelModel" "word" "[I") ∈ lw_good := am_in3 29 rfl rfl
set_option maxRecDepth 20000 in
theorem w_3_30 : (Jvm.Cond.fieldLink "PagingKernelModel" (34 : Nat) "PagingKernelModel" "used" "[Z") ∈ lw_good := am_in3 30 rfl rfl
set_option maxRecDepth 20000 in
theorem w_3_31 : (Jvm.Cond.fieldLink "PagingKernelModel" (38 : Nat) "PagingKernelModel" "at" "[I") ∈ lw_good := am_in3 31 rfl rfl
set_option maxRecDepth 20000 in
theorem w_3_32 : (Jvm.Cond.fieldLink "PagingKernelModel" (41 : Nat) "PagingKernelModel" "inFrame" "[I") ∈ lw_good := am_in3 32 rfl rfl
set_option maxRecDepth 20000 in
theorem w_3_33 : (Jvm.Cond.fieldLink "PagingKernelModel" (44 : Nat) "PagingKernelModel" "mark" "[Z") ∈ lw_good := am_in3 33 rfl rfl
set_option maxRecDepth 20000 in
theorem w_3_34 : (Jvm.Cond.fieldLink "PagingKernelModel" (47 : Nat) "PagingKernelModel" "slotUsed" "[Z") ∈ lw_good := am_in3 34 rfl rfl
set_option maxRecDepth 20000 in
theorem w_3_35 : (Jvm.Cond.fieldLink "PagingKernelModel" (82 : Nat) "PagingKernelModel" "hand" "I") ∈ lw_good := am_in3 35 rfl rfl
set_option maxRecDepth 20000 in
theorem w_3_36 : (Jvm.Cond.fieldLink "PagingKernelModel" (102 : Nat) "PagingKernelModel" "fills" "I") ∈ lw_good := am_in3 36 rfl rfl
set_option maxRecDepth 20000 in
theorem w_3_37 : (Jvm.Cond.fieldLink "PagingKernelModel" (134 : Nat) "PagingKernelModel" "copies" "I") ∈ lw_good := am_in3 37 rfl rfl
set_option maxRecDepth 20000 in
theorem w_3_38 : (Jvm.Cond.fieldLink "PagingKernelModel" (79 : Nat) "PagingKernelModel" "sent" "I") ∈ lw_good := am_in3 38 rfl rfl
set_option maxRecDepth 20000 in
theorem w_3_39 : (Jvm.Cond.lays "PagingKernelModel" "PagingKernelModel" "failed" "I") ∈ lw_good := am_in3 39 rfl rfl
set_option maxRecDepth 20000 in
theorem w_3_41 : (Jvm.Cond.laysFinal "PagingKernelModel" "PagingKernelModel" "frames" "I") ∈ lw_good := am_in3 41 rfl rfl
set_option maxRecDepth 20000 in
theorem w_3_43 : (Jvm.Cond.laysFinal "PagingKernelModel" "PagingKernelModel" "slots" "I") ∈ lw_good := am_in3 43 rfl rfl
set_option maxRecDepth 20000 in
theorem w_3_45 : (Jvm.Cond.laysFinal "PagingKernelModel" "PagingKernelModel" "status" "[I") ∈ lw_good := am_in3 45 rfl rfl
set_option maxRecDepth 20000 in
theorem w_3_47 : (Jvm.Cond.laysFinal "PagingKernelModel" "PagingKernelModel" "program" "[I") ∈ lw_good := am_in3 47 rfl rfl
set_option maxRecDepth 20000 in
theorem w_3_49 : (Jvm.Cond.laysFinal "PagingKernelModel" "PagingKernelModel" "parent" "[I") ∈ lw_good := am_in3 49 rfl rfl
set_option maxRecDepth 20000 in
theorem w_3_51 : (Jvm.Cond.laysFinal "PagingKernelModel" "PagingKernelModel" "code" "[I") ∈ lw_good := am_in3 51 rfl rfl
set_option maxRecDepth 20000 in
theorem w_3_53 : (Jvm.Cond.laysFinal "PagingKernelModel" "PagingKernelModel" "data" "[I") ∈ lw_good := am_in3 53 rfl rfl
set_option maxRecDepth 20000 in
theorem w_3_55 : (Jvm.Cond.laysFinal "PagingKernelModel" "PagingKernelModel" "stack" "[I") ∈ lw_good := am_in3 55 rfl rfl
set_option maxRecDepth 20000 in
theorem w_3_57 : (Jvm.Cond.laysFinal "PagingKernelModel" "PagingKernelModel" "place" "[I") ∈ lw_good := am_in3 57 rfl rfl
set_option maxRecDepth 20000 in
theorem w_3_59 : (Jvm.Cond.laysFinal "PagingKernelModel" "PagingKernelModel" "word" "[I") ∈ lw_good := am_in3 59 rfl rfl
set_option maxRecDepth 20000 in
theorem w_3_61 : (Jvm.Cond.laysFinal "PagingKernelModel" "PagingKernelModel" "used" "[Z") ∈ lw_good := am_in3 61 rfl rfl
set_option maxRecDepth 20000 in
theorem w_3_63 : (Jvm.Cond.laysFinal "PagingKernelModel" "PagingKernelModel" "at" "[I") ∈ lw_good := am_in3 63 rfl rfl
set_option maxRecDepth 20000 in
theorem w_3_65 : (Jvm.Cond.laysFinal "PagingKernelModel" "PagingKernelModel" "inFrame" "[I") ∈ lw_good := am_in3 65 rfl rfl
set_option maxRecDepth 20000 in
theorem w_3_67 : (Jvm.Cond.laysFinal "PagingKernelModel" "PagingKernelModel" "mark" "[Z") ∈ lw_good := am_in3 67 rfl rfl
set_option maxRecDepth 20000 in
theorem w_3_69 : (Jvm.Cond.laysFinal "PagingKernelModel" "PagingKernelModel" "slotUsed" "[Z") ∈ lw_good := am_in3 69 rfl rfl
set_option maxRecDepth 20000 in
theorem w_3_71 : (Jvm.Cond.lays "PagingKernelModel" "PagingKernelModel" "hand" "I") ∈ lw_good := am_in3 71 rfl rfl
set_option maxRecDepth 20000 in
theorem w_3_73 : (Jvm.Cond.lays "PagingKernelModel" "PagingKernelModel" "fills" "I") ∈ lw_good := am_in3 73 rfl rfl
set_option maxRecDepth 20000 in
theorem w_3_75 : (Jvm.Cond.lays "PagingKernelModel" "PagingKernelModel" "copies" "I") ∈ lw_good := am_in3 75 rfl rfl
set_option maxRecDepth 20000 in
theorem w_3_77 : (Jvm.Cond.lays "PagingKernelModel" "PagingKernelModel" "sent" "I") ∈ lw_good := am_in3 77 rfl rfl
set_option maxRecDepth 20000 in
theorem w_3_80 : (Jvm.Cond.methodLink "PagingKernelLaw" (77 : Nat) ({ cls := "PagingKernelModel", name := "thrown", desc := "()I" } : Jvm.MethodName)) ∈ lw_good := am_in3 80 rfl rfl
set_option maxRecDepth 20000 in
theorem w_3_81 : (Jvm.Cond.instanceMethod ({ cls := "PagingKernelModel", name := "thrown", desc := "()I" } : Jvm.MethodName)) ∈ lw_good := am_in3 81 rfl rfl
set_option maxRecDepth 20000 in
theorem w_3_82 : (Jvm.Cond.selects "PagingKernelModel" ({ cls := "PagingKernelModel", name := "thrown", desc := "()I" } : Jvm.MethodName) ({ cls := "PagingKernelModel", name := "thrown", desc := "()I" } : Jvm.MethodName)) ∈ lw_good := am_in3 82 rfl rfl
set_option maxRecDepth 20000 in
theorem w_3_83 : (Jvm.Cond.code ({ cls := "PagingKernelModel", name := "thrown", desc := "()I" } : Jvm.MethodName) prog_4_method_2_code (1 : Nat) (Option.some Jvm.ClassFile.FieldType.int)) ∈ lw_good := am_in3 83 rfl rfl
set_option maxRecDepth 20000 in
theorem w_3_84 : (Jvm.Cond.methodLink "PagingKernelLaw" (76 : Nat) ({ cls := "PagingKernelModel", name := "fork", desc := "(I)I" } : Jvm.MethodName)) ∈ lw_good := am_in3 84 rfl rfl
set_option maxRecDepth 20000 in
theorem w_3_85 : (Jvm.Cond.instanceMethod ({ cls := "PagingKernelModel", name := "fork", desc := "(I)I" } : Jvm.MethodName)) ∈ lw_good := am_in3 85 rfl rfl
set_option maxRecDepth 20000 in
theorem w_3_86 : (Jvm.Cond.selects "PagingKernelModel" ({ cls := "PagingKernelModel", name := "fork", desc := "(I)I" } : Jvm.MethodName) ({ cls := "PagingKernelModel", name := "fork", desc := "(I)I" } : Jvm.MethodName)) ∈ lw_good := am_in3 86 rfl rfl
set_option maxRecDepth 20000 in
theorem w_3_87 : (Jvm.Cond.code ({ cls := "PagingKernelModel", name := "fork", desc := "(I)I" } : Jvm.MethodName) prog_4_method_18_code (4 : Nat) (Option.some Jvm.ClassFile.FieldType.int)) ∈ lw_good := am_in3 87 rfl rfl
set_option maxRecDepth 20000 in
theorem w_3_88 : (Jvm.Cond.methodLink "PagingKernelModel" (105 : Nat) ({ cls := "PagingKernelModel", name := "out", desc := "(II)Z" } : Jvm.MethodName)) ∈ lw_good := am_in3 88 rfl rfl
set_option maxRecDepth 20000 in
theorem w_3_90 : (Jvm.Cond.instanceMethod ({ cls := "PagingKernelModel", name := "out", desc := "(II)Z" } : Jvm.MethodName)) ∈ lw_good := am_in3 90 rfl rfl
set_option maxRecDepth 20000 in
theorem w_3_91 : (Jvm.Cond.code ({ cls := "PagingKernelModel", name := "out", desc := "(II)Z" } : Jvm.MethodName) prog_4_method_4_code (3 : Nat) (Option.some Jvm.ClassFile.FieldType.boolean)) ∈ lw_good := am_in3 91 rfl rfl
set_option maxRecDepth 20000 in
theorem w_3_92 : (Jvm.Cond.methodLink "PagingKernelModel" (109 : Nat) ({ cls := "PagingKernelModel", name := "fail", desc := "(I)I" } : Jvm.MethodName)) ∈ lw_good := am_in3 92 rfl rfl
set_option maxRecDepth 20000 in
theorem w_3_94 : (Jvm.Cond.instanceMethod ({ cls := "PagingKernelModel", name := "fail", desc := "(I)I" } : Jvm.MethodName)) ∈ lw_good := am_in3 94 rfl rfl
set_option maxRecDepth 20000 in
theorem w_3_95 : (Jvm.Cond.code ({ cls := "PagingKernelModel", name := "fail", desc := "(I)I" } : Jvm.MethodName) prog_4_method_3_code (2 : Nat) (Option.some Jvm.ClassFile.FieldType.int)) ∈ lw_good := am_in3 95 rfl rfl
set_option maxRecDepth 20000 in
theorem w_3_96 : (Jvm.Cond.methodLink "PagingKernelModel" (112 : Nat) ({ cls := "PagingKernelModel", name := "notRunning", desc := "(I)Z" } : Jvm.MethodName)) ∈ lw_good := am_in3 96 rfl rfl
set_option maxRecDepth 20000 in
theorem w_3_98 : (Jvm.Cond.instanceMethod ({ cls := "PagingKernelModel", name := "notRunning", desc := "(I)Z" } : Jvm.MethodName)) ∈ lw_good := am_in3 98 rfl rfl
set_option maxRecDepth 20000 in
theorem w_3_99 : (Jvm.Cond.code ({ cls := "PagingKernelModel", name := "notRunning", desc := "(I)Z" } : Jvm.MethodName) prog_4_method_5_code (2 : Nat) (Option.some Jvm.ClassFile.FieldType.boolean)) ∈ lw_good := am_in3 99 rfl rfl
set_option maxRecDepth 20000 in
theorem w_3_100 : (Jvm.Cond.methodLink "PagingKernelLaw" (84 : Nat) ({ cls := "PagingKernelModel", name := "exec", desc := "(II)I" } : Jvm.MethodName)) ∈ lw_good := am_in3 100 rfl rfl
set_option maxRecDepth 20000 in
theorem w_3_101 : (Jvm.Cond.instanceMethod ({ cls := "PagingKernelModel", name := "exec", desc := "(II)I" } : Jvm.MethodName)) ∈ lw_good := am_in3 101 rfl rfl
set_option maxRecDepth 20000 in
theorem w_3_102 : (Jvm.Cond.selects "PagingKernelModel" ({ cls := "PagingKernelModel", name := "exec", desc := "(II)I" } : Jvm.MethodName) ({ cls := "PagingKernelModel", name := "exec", desc := "(II)I" } : Jvm.MethodName)) ∈ lw_good := am_in3 102 rfl rfl
set_option maxRecDepth 20000 in
theorem w_3_103 : (Jvm.Cond.code ({ cls := "PagingKernelModel", name := "exec", desc := "(II)I" } : Jvm.MethodName) prog_4_method_20_code (3 : Nat) (Option.some Jvm.ClassFile.FieldType.int)) ∈ lw_good := am_in3 103 rfl rfl
set_option maxRecDepth 20000 in
theorem w_3_104 : (Jvm.Cond.methodLink "PagingKernelModel" (115 : Nat) ({ cls := "PagingKernelModel", name := "drop", desc := "(I)V" } : Jvm.MethodName)) ∈ lw_good := am_in3 104 rfl rfl
set_option maxRecDepth 20000 in
theorem w_3_106 : (Jvm.Cond.instanceMethod ({ cls := "PagingKernelModel", name := "drop", desc := "(I)V" } : Jvm.MethodName)) ∈ lw_good := am_in3 106 rfl rfl
set_option maxRecDepth 20000 in
theorem w_3_107 : (Jvm.Cond.code ({ cls := "PagingKernelModel", name := "drop", desc := "(I)V" } : Jvm.MethodName) prog_4_method_19_code (3 : Nat) (Option.none : Option Jvm.ClassFile.FieldType)) ∈ lw_good := am_in3 107 rfl rfl
set_option maxRecDepth 20000 in
theorem w_3_108 : (Jvm.Cond.methodLink "PagingKernelModel" (118 : Nat) ({ cls := "PagingKernelModel", name := "clean", desc := "()V" } : Jvm.MethodName)) ∈ lw_good := am_in3 108 rfl rfl
set_option maxRecDepth 20000 in
theorem w_3_110 : (Jvm.Cond.instanceMethod ({ cls := "PagingKernelModel", name := "clean", desc := "()V" } : Jvm.MethodName)) ∈ lw_good := am_in3 110 rfl rfl
set_option maxRecDepth 20000 in
theorem w_3_111 : (Jvm.Cond.code ({ cls := "PagingKernelModel", name := "clean", desc := "()V" } : Jvm.MethodName) prog_4_method_9_code (2 : Nat) (Option.none : Option Jvm.ClassFile.FieldType)) ∈ lw_good := am_in3 111 rfl rfl
set_option maxRecDepth 20000 in
theorem w_3_112 : (Jvm.Cond.methodLink "PagingKernelModel" (64 : Nat) ({ cls := "PagingKernelModel", name := "owners", desc := "(I)I" } : Jvm.MethodName)) ∈ lw_good := am_in3 112 rfl rfl
set_option maxRecDepth 20000 in
theorem w_3_114 : (Jvm.Cond.instanceMethod ({ cls := "PagingKernelModel", name := "owners", desc := "(I)I" } : Jvm.MethodName)) ∈ lw_good := am_in3 114 rfl rfl
set_option maxRecDepth 20000 in
theorem w_3_115 : (Jvm.Cond.code ({ cls := "PagingKernelModel", name := "owners", desc := "(I)I" } : Jvm.MethodName) prog_4_method_7_code (4 : Nat) (Option.some Jvm.ClassFile.FieldType.int)) ∈ lw_good := am_in3 115 rfl rfl
set_option maxRecDepth 20000 in
theorem w_3_116 : (Jvm.Cond.methodLink "PagingKernelModel" (68 : Nat) ({ cls := "PagingKernelModel", name := "leave", desc := "(I)V" } : Jvm.MethodName)) ∈ lw_good := am_in3 116 rfl rfl
set_option maxRecDepth 20000 in
theorem w_3_118 : (Jvm.Cond.instanceMethod ({ cls := "PagingKernelModel", name := "leave", desc := "(I)V" } : Jvm.MethodName)) ∈ lw_good := am_in3 118 rfl rfl
set_option maxRecDepth 20000 in
theorem w_3_119 : (Jvm.Cond.code ({ cls := "PagingKernelModel", name := "leave", desc := "(I)V" } : Jvm.MethodName) prog_4_method_8_code (2 : Nat) (Option.none : Option Jvm.ClassFile.FieldType)) ∈ lw_good := am_in3 119 rfl rfl
set_option maxRecDepth 20000 in
theorem w_3_120 : (Jvm.Cond.methodLink "PagingKernelLaw" (87 : Nat) ({ cls := "PagingKernelModel", name := "exit", desc := "(II)I" } : Jvm.MethodName)) ∈ lw_good := am_in3 120 rfl rfl
set_option maxRecDepth 20000 in
theorem w_3_121 : (Jvm.Cond.instanceMethod ({ cls := "PagingKernelModel", name := "exit", desc := "(II)I" } : Jvm.MethodName)) ∈ lw_good := am_in3 121 rfl rfl
set_option maxRecDepth 20000 in
theorem w_3_122 : (Jvm.Cond.selects "PagingKernelModel" ({ cls := "PagingKernelModel", name := "exit", desc := "(II)I" } : Jvm.MethodName) ({ cls := "PagingKernelModel", name := "exit", desc := "(II)I" } : Jvm.MethodName)) ∈ lw_good := am_in3 122 rfl rfl
set_option maxRecDepth 20000 in
theorem w_3_123 : (Jvm.Cond.code ({ cls := "PagingKernelModel", name := "exit", desc := "(II)I" } : Jvm.MethodName) prog_4_method_21_code (5 : Nat) (Option.some Jvm.ClassFile.FieldType.int)) ∈ lw_good := am_in3 123 rfl rfl
set_option maxRecDepth 20000 in
theorem w_3_124 : (Jvm.Cond.methodLink "PagingKernelLaw" (90 : Nat) ({ cls := "PagingKernelModel", name := "await", desc := "(I)I" } : Jvm.MethodName)) ∈ lw_good := am_in3 124 rfl rfl
set_option maxRecDepth 20000 in
theorem w_3_125 : (Jvm.Cond.instanceMethod ({ cls := "PagingKernelModel", name := "await", desc := "(I)I" } : Jvm.MethodName)) ∈ lw_good := am_in3 125 rfl rfl
set_option maxRecDepth 20000 in
theorem w_3_126 : (Jvm.Cond.selects "PagingKernelModel" ({ cls := "PagingKernelModel", name := "await", desc := "(I)I" } : Jvm.MethodName) ({ cls := "PagingKernelModel", name := "await", desc := "(I)I" } : Jvm.MethodName)) ∈ lw_good := am_in3 126 rfl rfl
set_option maxRecDepth 20000 in
theorem w_3_127 : (Jvm.Cond.code ({ cls := "PagingKernelModel", name := "await", desc := "(I)I" } : Jvm.MethodName) prog_4_method_22_code (5 : Nat) (Option.some Jvm.ClassFile.FieldType.int)) ∈ lw_good := am_in3 127 rfl rfl
set_option maxRecDepth 20000 in
theorem w_3_128 : (Jvm.Cond.methodLink "PagingKernelLaw" (93 : Nat) ({ cls := "PagingKernelModel", name := "grow", desc := "(II)I" } : Jvm.MethodName)) ∈ lw_good := am_in3 128 rfl rfl
set_option maxRecDepth 20000 in
theorem w_3_129 : (Jvm.Cond.instanceMethod ({ cls := "PagingKernelModel", name := "grow", desc := "(II)I" } : Jvm.MethodName)) ∈ lw_good := am_in3 129 rfl rfl
set_option maxRecDepth 20000 in
theorem w_3_130 : (Jvm.Cond.selects "PagingKernelModel" ({ cls := "PagingKernelModel", name := "grow", desc := "(II)I" } : Jvm.MethodName) ({ cls := "PagingKernelModel", name := "grow", desc := "(II)I" } : Jvm.MethodName)) ∈ lw_good := am_in3 130 rfl rfl
set_option maxRecDepth 20000 in
theorem w_3_131 : (Jvm.Cond.code ({ cls := "PagingKernelModel", name := "grow", desc := "(II)I" } : Jvm.MethodName) prog_4_method_23_code (5 : Nat) (Option.some Jvm.ClassFile.FieldType.int)) ∈ lw_good := am_in3 131 rfl rfl
set_option maxRecDepth 20000 in
theorem w_3_132 : (Jvm.Cond.methodLink "PagingKernelLaw" (96 : Nat) ({ cls := "PagingKernelModel", name := "read", desc := "(II)I" } : Jvm.MethodName)) ∈ lw_good := am_in3 132 rfl rfl
set_option maxRecDepth 20000 in
theorem w_3_133 : (Jvm.Cond.instanceMethod ({ cls := "PagingKernelModel", name := "read", desc := "(II)I" } : Jvm.MethodName)) ∈ lw_good := am_in3 133 rfl rfl
set_option maxRecDepth 20000 in
theorem w_3_134 : (Jvm.Cond.selects "PagingKernelModel" ({ cls := "PagingKernelModel", name := "read", desc := "(II)I" } : Jvm.MethodName) ({ cls := "PagingKernelModel", name := "read", desc := "(II)I" } : Jvm.MethodName)) ∈ lw_good := am_in3 134 rfl rfl
set_option maxRecDepth 20000 in
theorem w_3_135 : (Jvm.Cond.code ({ cls := "PagingKernelModel", name := "read", desc := "(II)I" } : Jvm.MethodName) prog_4_method_27_code (4 : Nat) (Option.some Jvm.ClassFile.FieldType.int)) ∈ lw_good := am_in3 135 rfl rfl
set_option maxRecDepth 20000 in
theorem w_3_136 : (Jvm.Cond.methodLink "PagingKernelModel" (121 : Nat) ({ cls := "PagingKernelModel", name := "growStack", desc := "(II)V" } : Jvm.MethodName)) ∈ lw_good := am_in3 136 rfl rfl
set_option maxRecDepth 20000 in
theorem w_3_138 : (Jvm.Cond.instanceMethod ({ cls := "PagingKernelModel", name := "growStack", desc := "(II)V" } : Jvm.MethodName)) ∈ lw_good := am_in3 138 rfl rfl
set_option maxRecDepth 20000 in
theorem w_3_139 : (Jvm.Cond.code ({ cls := "PagingKernelModel", name := "growStack", desc := "(II)V" } : Jvm.MethodName) prog_4_method_25_code (4 : Nat) (Option.none : Option Jvm.ClassFile.FieldType)) ∈ lw_good := am_in3 139 rfl rfl
set_option maxRecDepth 20000 in
theorem w_3_140 : (Jvm.Cond.methodLink "PagingKernelModel" (124 : Nat) ({ cls := "PagingKernelModel", name := "pageOf", desc := "(II)I" } : Jvm.MethodName)) ∈ lw_good := am_in3 140 rfl rfl
set_option maxRecDepth 20000 in
theorem w_3_142 : (Jvm.Cond.instanceMethod ({ cls := "PagingKernelModel", name := "pageOf", desc := "(II)I" } : Jvm.MethodName)) ∈ lw_good := am_in3 142 rfl rfl
set_option maxRecDepth 20000 in
theorem w_3_143 : (Jvm.Cond.code ({ cls := "PagingKernelModel", name := "pageOf", desc := "(II)I" } : Jvm.MethodName) prog_4_method_24_code (3 : Nat) (Option.some Jvm.ClassFile.FieldType.int)) ∈ lw_good := am_in3 143 rfl rfl
set_option maxRecDepth 20000 in
theorem w_3_144 : (Jvm.Cond.methodLink "PagingKernelModel" (128 : Nat) ({ cls := "PagingKernelModel", name := "touch", desc := "(I)Z" } : Jvm.MethodName)) ∈ lw_good := am_in3 144 rfl rfl
set_option maxRecDepth 20000 in
theorem w_3_146 : (Jvm.Cond.instanceMethod ({ cls := "PagingKernelModel", name := "touch", desc := "(I)Z" } : Jvm.MethodName)) ∈ lw_good := am_in3 146 rfl rfl
set_option maxRecDepth 20000 in
theorem w_3_147 : (Jvm.Cond.code ({ cls := "PagingKernelModel", name := "touch", desc := "(I)Z" } : Jvm.MethodName) prog_4_method_17_code (3 : Nat) (Option.some Jvm.ClassFile.FieldType.boolean)) ∈ lw_good := am_in3 147 rfl rfl
set_option maxRecDepth 20000 in
theorem w_3_148 : (Jvm.Cond.methodLink "PagingKernelModel" (96 : Nat) ({ cls := "PagingKernelModel", name := "getFrame", desc := "()I" } : Jvm.MethodName)) ∈ lw_good := am_in3 148 rfl rfl
set_option maxRecDepth 20000 in
theorem w_3_150 : (Jvm.Cond.instanceMethod ({ cls := "PagingKernelModel", name := "getFrame", desc := "()I" } : Jvm.MethodName)) ∈ lw_good := am_in3 150 rfl rfl
set_option maxRecDepth 20000 in
theorem w_3_151 : (Jvm.Cond.code ({ cls := "PagingKernelModel", name := "getFrame", desc := "()I" } : Jvm.MethodName) prog_4_method_15_code (3 : Nat) (Option.some Jvm.ClassFile.FieldType.int)) ∈ lw_good := am_in3 151 rfl rfl
set_option maxRecDepth 20000 in
theorem w_3_152 : (Jvm.Cond.methodLink "PagingKernelModel" (92 : Nat) ({ cls := "PagingKernelModel", name := "look", desc := "()Z" } : Jvm.MethodName)) ∈ lw_good := am_in3 152 rfl rfl
set_option maxRecDepth 20000 in
theorem w_3_154 : (Jvm.Cond.instanceMethod ({ cls := "PagingKernelModel", name := "look", desc := "()Z" } : Jvm.MethodName)) ∈ lw_good := am_in3 154 rfl rfl
set_option maxRecDepth 20000 in
theorem w_3_155 : (Jvm.Cond.code ({ cls := "PagingKernelModel", name := "look", desc := "()Z" } : Jvm.MethodName) prog_4_method_14_code (2 : Nat) (Option.some Jvm.ClassFile.FieldType.boolean)) ∈ lw_good := am_in3 155 rfl rfl
set_option maxRecDepth 20000 in
theorem w_3_156 : (Jvm.Cond.methodLink "PagingKernelModel" (85 : Nat) ({ cls := "PagingKernelModel", name := "canGo", desc := "(I)Z" } : Jvm.MethodName)) ∈ lw_good := am_in3 156 rfl rfl
set_option maxRecDepth 20000 in
theorem w_3_158 : (Jvm.Cond.instanceMethod ({ cls := "PagingKernelModel", name := "canGo", desc := "(I)Z" } : Jvm.MethodName)) ∈ lw_good := am_in3 158 rfl rfl
set_option maxRecDepth 20000 in
theorem w_3_159 : (Jvm.Cond.code ({ cls := "PagingKernelModel", name := "canGo", desc := "(I)Z" } : Jvm.MethodName) prog_4_method_12_code (2 : Nat) (Option.some Jvm.ClassFile.FieldType.boolean)) ∈ lw_good := am_in3 159 rfl rfl
set_option maxRecDepth 20000 in
theorem w_3_160 : (Jvm.Cond.methodLink "PagingKernelModel" (76 : Nat) ({ cls := "PagingKernelModel", name := "freeSlot", desc := "()I" } : Jvm.MethodName)) ∈ lw_good := am_in3 160 rfl rfl
set_option maxRecDepth 20000 in
theorem w_3_162 : (Jvm.Cond.instanceMethod ({ cls := "PagingKernelModel", name := "freeSlot", desc := "()I" } : Jvm.MethodName)) ∈ lw_good := am_in3 162 rfl rfl
set_option maxRecDepth 20000 in
theorem w_3_163 : (Jvm.Cond.code ({ cls := "PagingKernelModel", name := "freeSlot", desc := "()I" } : Jvm.MethodName) prog_4_method_11_code (2 : Nat) (Option.some Jvm.ClassFile.FieldType.int)) ∈ lw_good := am_in3 163 rfl rfl
set_option maxRecDepth 20000 in
theorem w_3_164 : (Jvm.Cond.methodLink "PagingKernelModel" (89 : Nat) ({ cls := "PagingKernelModel", name := "sendOut", desc := "(I)V" } : Jvm.MethodName)) ∈ lw_good := am_in3 164 rfl rfl
set_option maxRecDepth 20000 in
theorem w_3_166 : (Jvm.Cond.instanceMethod ({ cls := "PagingKernelModel", name := "sendOut", desc := "(I)V" } : Jvm.MethodName)) ∈ lw_good := am_in3 166 rfl rfl
set_option maxRecDepth 20000 in
theorem w_3_167 : (Jvm.Cond.code ({ cls := "PagingKernelModel", name := "sendOut", desc := "(I)V" } : Jvm.MethodName) prog_4_method_13_code (3 : Nat) (Option.none : Option Jvm.ClassFile.FieldType)) ∈ lw_good := am_in3 167 rfl rfl
set_option maxRecDepth 20000 in
theorem w_3_168 : (Jvm.Cond.methodLink "PagingKernelModel" (99 : Nat) ({ cls := "PagingKernelModel", name := "putIn", desc := "(II)V" } : Jvm.MethodName)) ∈ lw_good := am_in3 168 rfl rfl
set_option maxRecDepth 20000 in
theorem w_3_170 : (Jvm.Cond.instanceMethod ({ cls := "PagingKernelModel", name := "putIn", desc := "(II)V" } : Jvm.MethodName)) ∈ lw_good := am_in3 170 rfl rfl
set_option maxRecDepth 20000 in
theorem w_3_171 : (Jvm.Cond.code ({ cls := "PagingKernelModel", name := "putIn", desc := "(II)V" } : Jvm.MethodName) prog_4_method_16_code (3 : Nat) (Option.none : Option Jvm.ClassFile.FieldType)) ∈ lw_good := am_in3 171 rfl rfl
set_option maxRecDepth 20000 in
theorem w_3_172 : (Jvm.Cond.methodLink "PagingKernelModel" (131 : Nat) ({ cls := "PagingKernelModel", name := "wordOf", desc := "(II)I" } : Jvm.MethodName)) ∈ lw_good := am_in3 172 rfl rfl
set_option maxRecDepth 20000 in
theorem w_3_174 : (Jvm.Cond.instanceMethod ({ cls := "PagingKernelModel", name := "wordOf", desc := "(II)I" } : Jvm.MethodName)) ∈ lw_good := am_in3 174 rfl rfl
set_option maxRecDepth 20000 in
theorem w_3_175 : (Jvm.Cond.code ({ cls := "PagingKernelModel", name := "wordOf", desc := "(II)I" } : Jvm.MethodName) prog_4_method_26_code (3 : Nat) (Option.some Jvm.ClassFile.FieldType.int)) ∈ lw_good := am_in3 175 rfl rfl
set_option maxRecDepth 20000 in
theorem w_3_176 : (Jvm.Cond.methodLink "PagingKernelLaw" (100 : Nat) ({ cls := "PagingKernelModel", name := "write", desc := "(III)I" } : Jvm.MethodName)) ∈ lw_good := am_in3 176 rfl rfl
set_option maxRecDepth 20000 in
theorem w_3_177 : (Jvm.Cond.instanceMethod ({ cls := "PagingKernelModel", name := "write", desc := "(III)I" } : Jvm.MethodName)) ∈ lw_good := am_in3 177 rfl rfl
set_option maxRecDepth 20000 in
theorem w_3_178 : (Jvm.Cond.selects "PagingKernelModel" ({ cls := "PagingKernelModel", name := "write", desc := "(III)I" } : Jvm.MethodName) ({ cls := "PagingKernelModel", name := "write", desc := "(III)I" } : Jvm.MethodName)) ∈ lw_good := am_in3 178 rfl rfl
set_option maxRecDepth 20000 in
theorem w_3_179 : (Jvm.Cond.code ({ cls := "PagingKernelModel", name := "write", desc := "(III)I" } : Jvm.MethodName) prog_4_method_28_code (8 : Nat) (Option.some Jvm.ClassFile.FieldType.int)) ∈ lw_good := am_in3 179 rfl rfl
set_option maxRecDepth 20000 in
theorem w_3_180 : (Jvm.Cond.methodLink "PagingKernelLaw" (103 : Nat) ({ cls := "PagingKernelModel", name := "sweep", desc := "(I)I" } : Jvm.MethodName)) ∈ lw_good := am_in3 180 rfl rfl
set_option maxRecDepth 20000 in
theorem w_3_181 : (Jvm.Cond.instanceMethod ({ cls := "PagingKernelModel", name := "sweep", desc := "(I)I" } : Jvm.MethodName)) ∈ lw_good := am_in3 181 rfl rfl
set_option maxRecDepth 20000 in
theorem w_3_182 : (Jvm.Cond.selects "PagingKernelModel" ({ cls := "PagingKernelModel", name := "sweep", desc := "(I)I" } : Jvm.MethodName) ({ cls := "PagingKernelModel", name := "sweep", desc := "(I)I" } : Jvm.MethodName)) ∈ lw_good := am_in3 182 rfl rfl
set_option maxRecDepth 20000 in
theorem w_3_183 : (Jvm.Cond.code ({ cls := "PagingKernelModel", name := "sweep", desc := "(I)I" } : Jvm.MethodName) prog_4_method_29_code (4 : Nat) (Option.some Jvm.ClassFile.FieldType.int)) ∈ lw_good := am_in3 183 rfl rfl
set_option maxRecDepth 20000 in
theorem w_3_184 : (Jvm.Cond.methodLink "PagingKernelLaw" (106 : Nat) ({ cls := "PagingKernelModel", name := "swapOut", desc := "(I)I" } : Jvm.MethodName)) ∈ lw_good := am_in3 184 rfl rfl
set_option maxRecDepth 20000 in
theorem w_3_185 : (Jvm.Cond.instanceMethod ({ cls := "PagingKernelModel", name := "swapOut", desc := "(I)I" } : Jvm.MethodName)) ∈ lw_good := am_in3 185 rfl rfl
set_option maxRecDepth 20000 in
theorem w_3_186 : (Jvm.Cond.selects "PagingKernelModel" ({ cls := "PagingKernelModel", name := "swapOut", desc := "(I)I" } : Jvm.MethodName) ({ cls := "PagingKernelModel", name := "swapOut", desc := "(I)I" } : Jvm.MethodName)) ∈ lw_good := am_in3 186 rfl rfl
set_option maxRecDepth 20000 in
theorem w_3_187 : (Jvm.Cond.code ({ cls := "PagingKernelModel", name := "swapOut", desc := "(I)I" } : Jvm.MethodName) prog_4_method_30_code (5 : Nat) (Option.some Jvm.ClassFile.FieldType.int)) ∈ lw_good := am_in3 187 rfl rfl
set_option maxRecDepth 20000 in
theorem w_3_188 : (Jvm.Cond.methodLink "PagingKernelLaw" (109 : Nat) ({ cls := "PagingKernelModel", name := "where", desc := "(II)I" } : Jvm.MethodName)) ∈ lw_good := am_in3 188 rfl rfl
set_option maxRecDepth 20000 in
theorem w_3_189 : (Jvm.Cond.instanceMethod ({ cls := "PagingKernelModel", name := "where", desc := "(II)I" } : Jvm.MethodName)) ∈ lw_good := am_in3 189 rfl rfl
set_option maxRecDepth 20000 in
theorem w_3_190 : (Jvm.Cond.selects "PagingKernelModel" ({ cls := "PagingKernelModel", name := "where", desc := "(II)I" } : Jvm.MethodName) ({ cls := "PagingKernelModel", name := "where", desc := "(II)I" } : Jvm.MethodName)) ∈ lw_good := am_in3 190 rfl rfl
set_option maxRecDepth 20000 in
theorem w_3_191 : (Jvm.Cond.code ({ cls := "PagingKernelModel", name := "where", desc := "(II)I" } : Jvm.MethodName) prog_4_method_32_code (4 : Nat) (Option.some Jvm.ClassFile.FieldType.int)) ∈ lw_good := am_in3 191 rfl rfl
set_option maxRecDepth 20000 in
theorem w_3_192 : (Jvm.Cond.methodLink "PagingKernelModel" (137 : Nat) ({ cls := "PagingKernelModel", name := "seek", desc := "(II)I" } : Jvm.MethodName)) ∈ lw_good := am_in3 192 rfl rfl
set_option maxRecDepth 20000 in
theorem w_3_194 : (Jvm.Cond.instanceMethod ({ cls := "PagingKernelModel", name := "seek", desc := "(II)I" } : Jvm.MethodName)) ∈ lw_good := am_in3 194 rfl rfl
set_option maxRecDepth 20000 in
theorem w_3_195 : (Jvm.Cond.code ({ cls := "PagingKernelModel", name := "seek", desc := "(II)I" } : Jvm.MethodName) prog_4_method_31_code (3 : Nat) (Option.some Jvm.ClassFile.FieldType.int)) ∈ lw_good := am_in3 195 rfl rfl
set_option maxRecDepth 20000 in
theorem w_3_196 : (Jvm.Cond.methodLink "PagingKernelLaw" (112 : Nat) ({ cls := "PagingKernelModel", name := "sharers", desc := "(II)I" } : Jvm.MethodName)) ∈ lw_good := am_in3 196 rfl rfl
set_option maxRecDepth 20000 in
theorem w_3_197 : (Jvm.Cond.instanceMethod ({ cls := "PagingKernelModel", name := "sharers", desc := "(II)I" } : Jvm.MethodName)) ∈ lw_good := am_in3 197 rfl rfl
set_option maxRecDepth 20000 in
theorem w_3_198 : (Jvm.Cond.selects "PagingKernelModel" ({ cls := "PagingKernelModel", name := "sharers", desc := "(II)I" } : Jvm.MethodName) ({ cls := "PagingKernelModel", name := "sharers", desc := "(II)I" } : Jvm.MethodName)) ∈ lw_good := am_in3 198 rfl rfl
set_option maxRecDepth 20000 in
theorem w_3_199 : (Jvm.Cond.code ({ cls := "PagingKernelModel", name := "sharers", desc := "(II)I" } : Jvm.MethodName) prog_4_method_33_code (4 : Nat) (Option.some Jvm.ClassFile.FieldType.int)) ∈ lw_good := am_in3 199 rfl rfl
set_option maxRecDepth 20000 in
theorem w_3_200 : (Jvm.Cond.methodLink "PagingKernelLaw" (115 : Nat) ({ cls := "PagingKernelModel", name := "fact", desc := "(II)I" } : Jvm.MethodName)) ∈ lw_good := am_in3 200 rfl rfl
set_option maxRecDepth 20000 in
theorem w_3_201 : (Jvm.Cond.instanceMethod ({ cls := "PagingKernelModel", name := "fact", desc := "(II)I" } : Jvm.MethodName)) ∈ lw_good := am_in3 201 rfl rfl
set_option maxRecDepth 20000 in
theorem w_3_202 : (Jvm.Cond.selects "PagingKernelModel" ({ cls := "PagingKernelModel", name := "fact", desc := "(II)I" } : Jvm.MethodName) ({ cls := "PagingKernelModel", name := "fact", desc := "(II)I" } : Jvm.MethodName)) ∈ lw_good := am_in3 202 rfl rfl
set_option maxRecDepth 20000 in
theorem w_3_203 : (Jvm.Cond.code ({ cls := "PagingKernelModel", name := "fact", desc := "(II)I" } : Jvm.MethodName) prog_4_method_34_code (3 : Nat) (Option.some Jvm.ClassFile.FieldType.int)) ∈ lw_good := am_in3 203 rfl rfl
set_option maxRecDepth 20000 in
theorem w_3_204 : (Jvm.Cond.methodLink "PagingKernelLaw" (118 : Nat) ({ cls := "PagingKernelModel", name := "count", desc := "(I)I" } : Jvm.MethodName)) ∈ lw_good := am_in3 204 rfl rfl
set_option maxRecDepth 20000 in
theorem w_3_205 : (Jvm.Cond.instanceMethod ({ cls := "PagingKernelModel", name := "count", desc := "(I)I" } : Jvm.MethodName)) ∈ lw_good := am_in3 205 rfl rfl
set_option maxRecDepth 20000 in
theorem w_3_206 : (Jvm.Cond.selects "PagingKernelModel" ({ cls := "PagingKernelModel", name := "count", desc := "(I)I" } : Jvm.MethodName) ({ cls := "PagingKernelModel", name := "count", desc := "(I)I" } : Jvm.MethodName)) ∈ lw_good := am_in3 206 rfl rfl
set_option maxRecDepth 20000 in
theorem w_3_207 : (Jvm.Cond.code ({ cls := "PagingKernelModel", name := "count", desc := "(I)I" } : Jvm.MethodName) prog_4_method_35_code (5 : Nat) (Option.some Jvm.ClassFile.FieldType.int)) ∈ lw_good := am_in3 207 rfl rfl
set_option maxRecDepth 20000 in
theorem w_3_208 : (Jvm.Cond.arrayClass Jvm.ClassFile.FieldType.long) ∈ lw_good := am_in3 208 rfl rfl
def am_rs0 : Nat → Option (Nat × (Nat → Int32)) := fun j => match j with
  | 0 => some (3, fun i => if i = 0 then 1 else if i = 1 then 2 else 4)
  | _ => none
def am_zs0 : am_Zt := ([("PagingKernel", "DATA_AT_START", "[I", 0)], [.castable (am_xn 0) (am_xn 0), .castable (am_xn 1) (am_xn 1), .castable (am_xn 2) (am_xn 2), .castable (am_xn 3) (am_xn 3), .castable (am_xn 4) (am_xn 4), .fieldLinkNest "PagingKernel" 144 "PagingKernel$Memory" "hand" "I" "PagingKernel", .fieldLinkNest "PagingKernel" 137 "PagingKernel$Memory" "fills" "I" "PagingKernel", .fieldLinkNest "PagingKernel" 141 "PagingKernel$Memory" "copies" "I" "PagingKernel", .fieldLinkNest "PagingKernel" 147 "PagingKernel$Memory" "sentOut" "I" "PagingKernel", .declares ⟨"java/lang/RuntimeException", "<init>", "()V"⟩, .declares ⟨"java/lang/RuntimeException", "<init>", "(Ljava/lang/String;)V"⟩, .declares ⟨"java/lang/Exception", "<init>", "()V"⟩, .declares ⟨"java/lang/Exception", "<init>", "(Ljava/lang/String;)V"⟩, .declares ⟨"java/lang/Throwable", "<init>", "()V"⟩, .declares ⟨"java/lang/Throwable", "<init>", "(Ljava/lang/String;)V"⟩])
theorem am_lkX : ∀ {X : am_X} {k : Nat × Nat} {φ : am_F}, X.lookup k = some φ → (k, φ) ∈ X
  | [], k, φ, h => by simp at h
  | (k', v') :: X, k, φ, h => by
    simp only [List.lookup] at h
    split at h
    · rename_i e
      have := eq_of_beq e
      subst this
      cases h
      exact List.mem_cons_self
    · exact List.mem_cons_of_mem _ (am_lkX h)
theorem am_okx {cl : List vw_C} {rs : Nat → Option (Nat × (Nat → Int32))} {zs : am_Zt} {l : Launch} {y : MethodName} {cc : ByteArray} {nL : Nat} {Ts : List Cond} {rm : Room} {hs : am_Hs} {X : am_X} (h : ∀ (p : Program) (e : Env) (s : State) (m : MethodId) (args : Array Value) (below : List Frame) (meth : Method) (c : Code) (D : va_G) (tc : Nat → ClassId) (A : Nat → Prop) (n0 : Nat) (ad0 : am_A), am_Cx p l rm s m args meth c cc nL Ts y.cls D cl tc A rs zs hs ad0 → meth.name = y.name → ∀ q ∈ X, am_op p l e rm s m args below meth c D cl tc A nL n0 ad0 cc q.1 q.2) : am_ok cl rs zs l y cc nL Ts rm hs X :=
  fun p e s m args below meth c D tc A n0 ad0 C hm key φ hk => h p e s m args below meth c D tc A n0 ad0 C hm (key, φ) (am_lkX hk)
abbrev RX0 : String := "PagingKernel$Memory"
def TX0 : u_T := fun k => match k with
  | 0 => ("PagingKernel$Memory", "words", "[I", true)
  | 1 => ("PagingKernel$Memory", "users", "[I", true)
  | 2 => ("PagingKernel$Memory", "home", "[I", true)
  | 3 => ("PagingKernel$Memory", "pageInFrame", "[I", true)
  | 4 => ("PagingKernel$Memory", "marked", "[Z", true)
  | 5 => ("PagingKernel$Memory", "pageInSlot", "[I", true)
  | 6 => ("PagingKernel$Memory", "hand", "I", false)
  | 7 => ("PagingKernel$Memory", "fills", "I", false)
  | 8 => ("PagingKernel$Memory", "copies", "I", false)
  | _ => ("PagingKernel$Memory", "sentOut", "I", false)
def tyX0 : Nat → FieldType := fun k => match k with
  | 0 => .array .int
  | 1 => .array .int
  | 2 => .array .int
  | 3 => .array .int
  | 4 => .array .boolean
  | 5 => .array .int
  | 6 => .int
  | 7 => .int
  | 8 => .int
  | _ => .int
theorem nmX0 : ∀ a, a < 10 → ∀ b, b < 10 → a ≠ b → (TX0 a).2.1 ≠ (TX0 b).2.1 := by decide +kernel
theorem tyX0_ok : ∀ k, k < 10 → parseFieldDescriptor (TX0 k).2.2.1 = some (tyX0 k) := by decide +kernel
theorem hinX0 : ∀ w ∈ u_ws RX0 TX0 10, w ∈ lw_good := by
  intro w hw
  obtain ⟨k, hk, rfl⟩ := List.mem_map.mp hw
  have hk := List.mem_range.mp hk
  match k, hk with
  | 0, _ => exact w_1_57
  | 1, _ => exact w_1_59
  | 2, _ => exact w_1_61
  | 3, _ => exact w_1_63
  | 4, _ => exact w_1_65
  | 5, _ => exact w_1_67
  | 6, _ => exact w_1_69
  | 7, _ => exact w_1_71
  | 8, _ => exact w_1_73
  | 9, _ => exact w_1_75
  | k + 10, hk => exact absurd hk (by omega)
abbrev RX1 : String := "PagingKernel"
def TX1 : u_T := fun k => match k with
  | 0 => ("PagingKernel", "memory", "LPagingKernel$Memory;", true)
  | 1 => ("PagingKernel", "state", "[I", true)
  | 2 => ("PagingKernel", "program", "[I", true)
  | 3 => ("PagingKernel", "parent", "[I", true)
  | 4 => ("PagingKernel", "exitCode", "[I", true)
  | 5 => ("PagingKernel", "dataPages", "[I", true)
  | 6 => ("PagingKernel", "stackPages", "[I", true)
  | _ => ("PagingKernel", "pageAt", "[[I", true)
def tyX1 : Nat → FieldType := fun k => match k with
  | 0 => .object "PagingKernel$Memory"
  | 1 => .array .int
  | 2 => .array .int
  | 3 => .array .int
  | 4 => .array .int
  | 5 => .array .int
  | 6 => .array .int
  | _ => .array (.array .int)
theorem nmX1 : ∀ a, a < 8 → ∀ b, b < 8 → a ≠ b → (TX1 a).2.1 ≠ (TX1 b).2.1 := by decide +kernel
theorem tyX1_ok : ∀ k, k < 8 → parseFieldDescriptor (TX1 k).2.2.1 = some (tyX1 k) := by decide +kernel
theorem hinX1 : ∀ w ∈ u_ws RX1 TX1 8, w ∈ lw_good := by
  intro w hw
  obtain ⟨k, hk, rfl⟩ := List.mem_map.mp hw
  have hk := List.mem_range.mp hk
  match k, hk with
  | 0, _ => exact w_1_126
  | 1, _ => exact w_1_128
  | 2, _ => exact w_1_130
  | 3, _ => exact w_1_132
  | 4, _ => exact w_1_134
  | 5, _ => exact w_1_136
  | 6, _ => exact w_1_138
  | 7, _ => exact w_1_140
  | k + 8, hk => exact absurd hk (by omega)
abbrev RX2 : String := "PagingKernelModel"
def TX2 : u_T := fun k => match k with
  | 0 => ("PagingKernelModel", "failed", "I", false)
  | 1 => ("PagingKernelModel", "frames", "I", true)
  | 2 => ("PagingKernelModel", "slots", "I", true)
  | 3 => ("PagingKernelModel", "status", "[I", true)
  | 4 => ("PagingKernelModel", "program", "[I", true)
  | 5 => ("PagingKernelModel", "parent", "[I", true)
  | 6 => ("PagingKernelModel", "code", "[I", true)
  | 7 => ("PagingKernelModel", "data", "[I", true)
  | 8 => ("PagingKernelModel", "stack", "[I", true)
  | 9 => ("PagingKernelModel", "place", "[I", true)
  | 10 => ("PagingKernelModel", "word", "[I", true)
  | 11 => ("PagingKernelModel", "used", "[Z", true)
  | 12 => ("PagingKernelModel", "at", "[I", true)
  | 13 => ("PagingKernelModel", "inFrame", "[I", true)
  | 14 => ("PagingKernelModel", "mark", "[Z", true)
  | 15 => ("PagingKernelModel", "slotUsed", "[Z", true)
  | 16 => ("PagingKernelModel", "hand", "I", false)
  | 17 => ("PagingKernelModel", "fills", "I", false)
  | 18 => ("PagingKernelModel", "copies", "I", false)
  | _ => ("PagingKernelModel", "sent", "I", false)
def tyX2 : Nat → FieldType := fun k => match k with
  | 0 => .int
  | 1 => .int
  | 2 => .int
  | 3 => .array .int
  | 4 => .array .int
  | 5 => .array .int
  | 6 => .array .int
  | 7 => .array .int
  | 8 => .array .int
  | 9 => .array .int
  | 10 => .array .int
  | 11 => .array .boolean
  | 12 => .array .int
  | 13 => .array .int
  | 14 => .array .boolean
  | 15 => .array .boolean
  | 16 => .int
  | 17 => .int
  | 18 => .int
  | _ => .int
theorem nmX2 : ∀ a, a < 20 → ∀ b, b < 20 → a ≠ b → (TX2 a).2.1 ≠ (TX2 b).2.1 := by decide +kernel
theorem tyX2_ok : ∀ k, k < 20 → parseFieldDescriptor (TX2 k).2.2.1 = some (tyX2 k) := by decide +kernel
theorem hinX2 : ∀ w ∈ u_ws RX2 TX2 20, w ∈ lw_good := by
  intro w hw
  obtain ⟨k, hk, rfl⟩ := List.mem_map.mp hw
  have hk := List.mem_range.mp hk
  match k, hk with
  | 0, _ => exact w_3_39
  | 1, _ => exact w_3_41
  | 2, _ => exact w_3_43
  | 3, _ => exact w_3_45
  | 4, _ => exact w_3_47
  | 5, _ => exact w_3_49
  | 6, _ => exact w_3_51
  | 7, _ => exact w_3_53
  | 8, _ => exact w_3_55
  | 9, _ => exact w_3_57
  | 10, _ => exact w_3_59
  | 11, _ => exact w_3_61
  | 12, _ => exact w_3_63
  | 13, _ => exact w_3_65
  | 14, _ => exact w_3_67
  | 15, _ => exact w_3_69
  | 16, _ => exact w_3_71
  | 17, _ => exact w_3_73
  | 18, _ => exact w_3_75
  | 19, _ => exact w_3_77
  | k + 20, hk => exact absurd hk (by omega)
abbrev RL : String := "PagingKernelLaw"
abbrev RJ7 : String := "java/util/Arrays"
def am_cl0 : List vw_C := [(RX0, TX0, 10), (RX1, TX1, 8), (RX2, TX2, 20)]
end
section
abbrev y_X1_clamp : MethodName := ⟨"PagingKernel", "clamp", "(III)I"⟩
def T_X1_clamp : am_I := [(0, .iload_n 1, 1), (1, .iload_n 2, 1), (2, .iload_n 0, 1), (3, .invokestatic 153, 3), (6, .invokestatic 158, 3), (9, .ireturn, 1)]
abbrev rm_X1_clamp : Room := { frames := 1, cells := 0, slots := 0, locals := 21 }
abbrev y_J7_fill : MethodName := ⟨"java/util/Arrays", "fill", "([II)V"⟩
def T_J7_fill : am_I := [(0, .iconst 0, 1), (1, .istore_n 2, 1), (2, .aload_n 0, 1), (3, .arraylength, 1), (4, .istore_n 3, 1), (5, .iload_n 2, 1), (6, .iload_n 3, 1), (7, .if_icmp .ge 13, 3), (10, .aload_n 0, 1), (11, .iload_n 2, 1), (12, .iload_n 1, 1), (13, .iastore, 1), (14, .iinc 2 1, 3), (17, .goto (-12), 3), (20, .return_, 1)]
abbrev rm_J7_fill : Room := { frames := 0, cells := 0, slots := 0, locals := 0 }
abbrev y_X0_init : MethodName := ⟨"PagingKernel$Memory", "<init>", "(II)V"⟩
def T_X0_init : am_I := [(0, .aload_n 0, 1), (1, .invokespecial 5, 3), (4, .aload_n 0, 1), (5, .sipush 240, 3), (8, .newarray .int, 2), (10, .putfield 11, 3), (13, .aload_n 0, 1), (14, .bipush 60, 2), (16, .newarray .int, 2), (18, .putfield 15, 3), (21, .aload_n 0, 1), (22, .bipush 60, 2), (24, .newarray .int, 2), (26, .putfield 18, 3), (29, .aload_n 0, 1), (30, .iconst 0, 1), (31, .putfield 21, 3), (34, .aload_n 0, 1), (35, .iconst 0, 1), (36, .putfield 25, 3), (39, .aload_n 0, 1), (40, .iconst 0, 1), (41, .putfield 28, 3), (44, .aload_n 0, 1), (45, .iconst 0, 1), (46, .putfield 31, 3), (49, .aload_n 0, 1), (50, .iload_n 1, 1), (51, .newarray .int, 2), (53, .putfield 34, 3), (56, .aload_n 0, 1), (57, .iload_n 1, 1), (58, .newarray .boolean, 2), (60, .putfield 37, 3), (63, .aload_n 0, 1), (64, .iload_n 2, 1), (65, .newarray .int, 2), (67, .putfield 41, 3), (70, .aload_n 0, 1), (71, .getfield 34, 3), (74, .iconst (-1), 1), (75, .invokestatic 44, 3), (78, .aload_n 0, 1), (79, .getfield 41, 3), (82, .iconst (-1), 1), (83, .invokestatic 44, 3), (86, .aload_n 0, 1), (87, .getfield 18, 3), (90, .iconst (-1), 1), (91, .invokestatic 44, 3), (94, .iconst 0, 1), (95, .istore_n 3, 1), (96, .iload_n 3, 1), (97, .bipush 6, 2), (99, .if_icmp .ge 51, 3), (102, .iconst 0, 1), (103, .istore 4, 2), (105, .iload 4, 2), (107, .iconst 4, 1), (108, .if_icmp .ge 36, 3), (111, .aload_n 0, 1), (112, .getfield 11, 3), (115, .iload_n 3, 1), (116, .iconst 4, 1), (117, .imul, 1), (118, .iload 4, 2), (120, .iadd, 1), (121, .bipush 100, 2), (123, .iload_n 3, 1), (124, .iconst 2, 1), (125, .idiv, 1), (126, .imul, 1), (127, .bipush 10, 2), (129, .iload_n 3, 1), (130, .iconst 2, 1), (131, .irem, 1), (132, .imul, 1), (133, .iadd, 1), (134, .iload 4, 2), (136, .iadd, 1), (137, .iastore, 1), (138, .iinc 4 1, 3), (141, .goto (-36), 3), (144, .iinc 3 1, 3), (147, .goto (-51), 3), (150, .return_, 1)]
abbrev rm_X0_init : Room := { frames := 1, cells := 6, slots := 1800, locals := 23 }
abbrev y_X0_textPage : MethodName := ⟨"PagingKernel$Memory", "textPage", "(II)I"⟩
def T_X0_textPage : am_I := [(0, .iload_n 0, 1), (1, .iconst 2, 1), (2, .imul, 1), (3, .iload_n 1, 1), (4, .iadd, 1), (5, .ireturn, 1)]
abbrev rm_X0_textPage : Room := { frames := 0, cells := 0, slots := 0, locals := 0 }
abbrev y_X0_join : MethodName := ⟨"PagingKernel$Memory", "join", "(I)V"⟩
def T_X0_join : am_I := [(0, .aload_n 0, 1), (1, .getfield 15, 3), (4, .iload_n 1, 1), (5, .dup2, 1), (6, .iaload, 1), (7, .iconst 1, 1), (8, .iadd, 1), (9, .iastore, 1), (10, .return_, 1)]
abbrev rm_X0_join : Room := { frames := 0, cells := 0, slots := 0, locals := 0 }
abbrev y_X0_isIn : MethodName := ⟨"PagingKernel$Memory", "isIn", "(I)Z"⟩
def T_X0_isIn : am_I := [(0, .aload_n 0, 1), (1, .getfield 18, 3), (4, .iload_n 1, 1), (5, .iaload, 1), (6, .iconst (-1), 1), (7, .if_icmp .eq 18, 3), (10, .aload_n 0, 1), (11, .getfield 18, 3), (14, .iload_n 1, 1), (15, .iaload, 1), (16, .bipush 100, 2), (18, .if_icmp .ge 7, 3), (21, .iconst 1, 1), (22, .goto 4, 3), (25, .iconst 0, 1), (26, .ireturn, 1)]
abbrev rm_X0_isIn : Room := { frames := 0, cells := 0, slots := 0, locals := 0 }
abbrev y_X0_vacate : MethodName := ⟨"PagingKernel$Memory", "vacate", "(I)V"⟩
def T_X0_vacate : am_I := [(0, .aload_n 0, 1), (1, .iload_n 1, 1), (2, .invokevirtual 58, 3), (5, .ifCond .eq 18, 3), (8, .aload_n 0, 1), (9, .getfield 34, 3), (12, .aload_n 0, 1), (13, .getfield 18, 3), (16, .iload_n 1, 1), (17, .iaload, 1), (18, .iconst (-1), 1), (19, .iastore, 1), (20, .goto 28, 3), (23, .aload_n 0, 1), (24, .getfield 18, 3), (27, .iload_n 1, 1), (28, .iaload, 1), (29, .iconst (-1), 1), (30, .if_icmp .eq 18, 3), (33, .aload_n 0, 1), (34, .getfield 41, 3), (37, .aload_n 0, 1), (38, .getfield 18, 3), (41, .iload_n 1, 1), (42, .iaload, 1), (43, .bipush 100, 2), (45, .isub, 1), (46, .iconst (-1), 1), (47, .iastore, 1), (48, .aload_n 0, 1), (49, .getfield 18, 3), (52, .iload_n 1, 1), (53, .iconst (-1), 1), (54, .iastore, 1), (55, .return_, 1)]
abbrev rm_X0_vacate : Room := { frames := 1, cells := 0, slots := 0, locals := 21 }
abbrev y_X0_leave : MethodName := ⟨"PagingKernel$Memory", "leave", "(I)V"⟩
def T_X0_leave : am_I := [(0, .aload_n 0, 1), (1, .getfield 15, 3), (4, .iload_n 1, 1), (5, .dup2, 1), (6, .iaload, 1), (7, .iconst 1, 1), (8, .isub, 1), (9, .iastore, 1), (10, .aload_n 0, 1), (11, .getfield 15, 3), (14, .iload_n 1, 1), (15, .iaload, 1), (16, .ifCond .ne 8, 3), (19, .aload_n 0, 1), (20, .iload_n 1, 1), (21, .invokevirtual 54, 3), (24, .return_, 1)]
abbrev rm_X0_leave : Room := { frames := 2, cells := 0, slots := 0, locals := 42 }
abbrev y_X1_leavePages : MethodName := ⟨"PagingKernel", "leavePages", "(III)V"⟩
def T_X1_leavePages : am_I := [(0, .iload_n 2, 1), (1, .istore 4, 2), (3, .iload 4, 2), (5, .iload_n 3, 1), (6, .if_icmp .ge 45, 3), (9, .aload_n 0, 1), (10, .getfield 30, 3), (13, .iload_n 1, 1), (14, .aaload, 1), (15, .iload 4, 2), (17, .iaload, 1), (18, .istore 5, 2), (20, .iload 5, 2), (22, .iconst (-1), 1), (23, .if_icmp .eq 22, 3), (26, .aload_n 0, 1), (27, .getfield 42, 3), (30, .iload 5, 2), (32, .invokevirtual 182, 3), (35, .aload_n 0, 1), (36, .getfield 30, 3), (39, .iload_n 1, 1), (40, .aaload, 1), (41, .iload 4, 2), (43, .iconst (-1), 1), (44, .iastore, 1), (45, .iinc 4 1, 3), (48, .goto (-45), 3), (51, .return_, 1)]
abbrev rm_X1_leavePages : Room := { frames := 3, cells := 0, slots := 0, locals := 63 }
abbrev y_X0_newPage : MethodName := ⟨"PagingKernel$Memory", "newPage", "()I"⟩
def T_X0_newPage : am_I := [(0, .bipush 6, 2), (2, .istore_n 1, 1), (3, .iload_n 1, 1), (4, .bipush 59, 2), (6, .if_icmp .ge 18, 3), (9, .aload_n 0, 1), (10, .getfield 15, 3), (13, .iload_n 1, 1), (14, .iaload, 1), (15, .ifCond .le 9, 3), (18, .iinc 1 1, 3), (21, .goto (-18), 3), (24, .iconst 0, 1), (25, .istore_n 2, 1), (26, .iload_n 2, 1), (27, .iconst 4, 1), (28, .if_icmp .ge 20, 3), (31, .aload_n 0, 1), (32, .getfield 11, 3), (35, .iload_n 1, 1), (36, .iconst 4, 1), (37, .imul, 1), (38, .iload_n 2, 1), (39, .iadd, 1), (40, .iconst 0, 1), (41, .iastore, 1), (42, .iinc 2 1, 3), (45, .goto (-19), 3), (48, .aload_n 0, 1), (49, .getfield 15, 3), (52, .iload_n 1, 1), (53, .iconst 1, 1), (54, .iastore, 1), (55, .iload_n 1, 1), (56, .ireturn, 1)]
abbrev rm_X0_newPage : Room := { frames := 0, cells := 0, slots := 0, locals := 0 }
abbrev y_X1_addPages : MethodName := ⟨"PagingKernel", "addPages", "(III)V"⟩
def T_X1_addPages : am_I := [(0, .iload_n 2, 1), (1, .istore 4, 2), (3, .iload 4, 2), (5, .iload_n 3, 1), (6, .if_icmp .ge 25, 3), (9, .aload_n 0, 1), (10, .getfield 30, 3), (13, .iload_n 1, 1), (14, .aaload, 1), (15, .iload 4, 2), (17, .aload_n 0, 1), (18, .getfield 42, 3), (21, .invokevirtual 179, 3), (24, .iastore, 1), (25, .iinc 4 1, 3), (28, .goto (-25), 3), (31, .return_, 1)]
abbrev rm_X1_addPages : Room := { frames := 1, cells := 0, slots := 0, locals := 22 }
abbrev y_X1_startProgram : MethodName := ⟨"PagingKernel", "startProgram", "(II)V"⟩
def T_X1_startProgram : am_I := [(0, .iconst 0, 1), (1, .istore_n 3, 1), (2, .iload_n 3, 1), (3, .iconst 2, 1), (4, .if_icmp .ge 21, 3), (7, .aload_n 0, 1), (8, .getfield 42, 3), (11, .iload_n 2, 1), (12, .iload_n 3, 1), (13, .invokestatic 170, 3), (16, .invokevirtual 173, 3), (19, .iinc 3 1, 3), (22, .goto (-20), 3), (25, .aload_n 0, 1), (26, .iload_n 1, 1), (27, .iconst 0, 1), (28, .bipush 11, 2), (30, .invokevirtual 76, 3), (33, .iconst 0, 1), (34, .istore_n 3, 1), (35, .iload_n 3, 1), (36, .iconst 2, 1), (37, .if_icmp .ge 22, 3), (40, .aload_n 0, 1), (41, .getfield 30, 3), (44, .iload_n 1, 1), (45, .aaload, 1), (46, .iload_n 3, 1), (47, .iload_n 2, 1), (48, .iload_n 3, 1), (49, .invokestatic 170, 3), (52, .iastore, 1), (53, .iinc 3 1, 3), (56, .goto (-21), 3), (59, .aload_n 0, 1), (60, .getfield 13, 3), (63, .iload_n 1, 1), (64, .iload_n 2, 1), (65, .iastore, 1), (66, .aload_n 0, 1), (67, .getfield 22, 3), (70, .iload_n 1, 1), (71, .getstatic 176, 3), (74, .iload_n 2, 1), (75, .iaload, 1), (76, .iastore, 1), (77, .aload_n 0, 1), (78, .getfield 25, 3), (81, .iload_n 1, 1), (82, .iconst 1, 1), (83, .iastore, 1), (84, .aload_n 0, 1), (85, .iload_n 1, 1), (86, .iconst 2, 1), (87, .iconst 2, 1), (88, .aload_n 0, 1), (89, .getfield 22, 3), (92, .iload_n 1, 1), (93, .iaload, 1), (94, .iadd, 1), (95, .invokevirtual 93, 3), (98, .aload_n 0, 1), (99, .iload_n 1, 1), (100, .bipush 10, 2), (102, .bipush 11, 2), (104, .invokevirtual 93, 3), (107, .return_, 1)]
abbrev rm_X1_startProgram : Room := { frames := 4, cells := 0, slots := 0, locals := 88 }
abbrev y_X1_init : MethodName := ⟨"PagingKernel", "<init>", "(II)V"⟩
def T_X1_init : am_I := [(0, .aload_n 0, 1), (1, .invokespecial 3, 3), (4, .aload_n 0, 1), (5, .bipush 6, 2), (7, .newarray .int, 2), (9, .putfield 9, 3), (12, .aload_n 0, 1), (13, .bipush 6, 2), (15, .newarray .int, 2), (17, .putfield 13, 3), (20, .aload_n 0, 1), (21, .bipush 6, 2), (23, .newarray .int, 2), (25, .putfield 16, 3), (28, .aload_n 0, 1), (29, .bipush 6, 2), (31, .newarray .int, 2), (33, .putfield 19, 3), (36, .aload_n 0, 1), (37, .bipush 6, 2), (39, .newarray .int, 2), (41, .putfield 22, 3), (44, .aload_n 0, 1), (45, .bipush 6, 2), (47, .newarray .int, 2), (49, .putfield 25, 3), (52, .aload_n 0, 1), (53, .bipush 6, 2), (55, .bipush 11, 2), (57, .multianewarray 28 2, 4), (61, .putfield 30, 3), (64, .aload_n 0, 1), (65, .new 33, 3), (68, .dup, 1), (69, .iload_n 1, 1), (70, .iconst 2, 1), (71, .bipush 10, 2), (73, .invokestatic 35, 3), (76, .iload_n 2, 1), (77, .iconst 0, 1), (78, .bipush 20, 2), (80, .invokestatic 35, 3), (83, .invokespecial 39, 3), (86, .putfield 42, 3), (89, .aload_n 0, 1), (90, .getfield 16, 3), (93, .iconst (-1), 1), (94, .invokestatic 46, 3), (97, .iconst 0, 1), (98, .istore_n 3, 1), (99, .iload_n 3, 1), (100, .bipush 6, 2), (102, .if_icmp .ge 19, 3), (105, .aload_n 0, 1), (106, .getfield 30, 3), (109, .iload_n 3, 1), (110, .aaload, 1), (111, .iconst (-1), 1), (112, .invokestatic 46, 3), (115, .iinc 3 1, 3), (118, .goto (-19), 3), (121, .aload_n 0, 1), (122, .getfield 9, 3), (125, .iconst 0, 1), (126, .iconst 1, 1), (127, .iastore, 1), (128, .aload_n 0, 1), (129, .iconst 0, 1), (130, .iconst 0, 1), (131, .invokevirtual 52, 3), (134, .return_, 1)]
abbrev rm_X1_init : Room := { frames := 5, cells := 20, slots := 3682, locals := 111 }
abbrev y_L_cell : MethodName := ⟨"PagingKernelLaw", "cell", "([II)I"⟩
def T_L_cell : am_I := [(0, .iload_n 1, 1), (1, .aload_n 0, 1), (2, .arraylength, 1), (3, .if_icmp .ge 9, 3), (6, .aload_n 0, 1), (7, .iload_n 1, 1), (8, .iaload, 1), (9, .goto 4, 3), (12, .iconst 0, 1), (13, .ireturn, 1)]
abbrev rm_L_cell : Room := { frames := 0, cells := 0, slots := 0, locals := 0 }
abbrev y_X1_checkRange : MethodName := ⟨"PagingKernel", "checkRange", "(III)V"⟩
def T_X1_checkRange : am_I := [(0, .iload_n 0, 1), (1, .iload_n 1, 1), (2, .if_icmp .lt 8, 3), (5, .iload_n 0, 1), (6, .iload_n 2, 1), (7, .if_icmp .le 11, 3), (10, .new 161, 3), (13, .dup, 1), (14, .invokespecial 163, 3), (17, .athrow, 1), (18, .return_, 1)]
abbrev rm_X1_checkRange : Room := { frames := 6, cells := 1, slots := 6, locals := 89 }
abbrev y_X1_checkProcess : MethodName := ⟨"PagingKernel", "checkProcess", "(I)V"⟩
def T_X1_checkProcess : am_I := [(0, .iload_n 0, 1), (1, .iconst 0, 1), (2, .iconst 5, 1), (3, .invokestatic 72, 3), (6, .return_, 1)]
abbrev rm_X1_checkProcess : Room := { frames := 7, cells := 1, slots := 6, locals := 111 }
abbrev y_X1_checkRunning : MethodName := ⟨"PagingKernel", "checkRunning", "(I)V"⟩
def T_X1_checkRunning : am_I := [(0, .aload_n 0, 1), (1, .getfield 9, 3), (4, .iload_n 1, 1), (5, .iaload, 1), (6, .iconst 1, 1), (7, .if_icmp .eq 11, 3), (10, .new 164, 3), (13, .dup, 1), (14, .invokespecial 166, 3), (17, .athrow, 1), (18, .return_, 1)]
abbrev rm_X1_checkRunning : Room := { frames := 6, cells := 1, slots := 6, locals := 89 }
abbrev y_X1_leastFreeProcess : MethodName := ⟨"PagingKernel", "leastFreeProcess", "()I"⟩
def T_X1_leastFreeProcess : am_I := [(0, .iconst 0, 1), (1, .istore_n 1, 1), (2, .iload_n 1, 1), (3, .bipush 6, 2), (5, .if_icmp .ge 20, 3), (8, .aload_n 0, 1), (9, .getfield 9, 3), (12, .iload_n 1, 1), (13, .iaload, 1), (14, .ifCond .ne 5, 3), (17, .iload_n 1, 1), (18, .ireturn, 1), (19, .iinc 1 1, 3), (22, .goto (-20), 3), (25, .iconst (-1), 1), (26, .ireturn, 1)]
abbrev rm_X1_leastFreeProcess : Room := { frames := 0, cells := 0, slots := 0, locals := 0 }
abbrev y_X1_sharePages : MethodName := ⟨"PagingKernel", "sharePages", "(II)V"⟩
def T_X1_sharePages : am_I := [(0, .iconst 0, 1), (1, .istore_n 3, 1), (2, .iload_n 3, 1), (3, .bipush 11, 2), (5, .if_icmp .ge 44, 3), (8, .aload_n 0, 1), (9, .getfield 30, 3), (12, .iload_n 1, 1), (13, .aaload, 1), (14, .iload_n 3, 1), (15, .iaload, 1), (16, .istore 4, 2), (18, .iload 4, 2), (20, .iconst (-1), 1), (21, .if_icmp .eq 12, 3), (24, .aload_n 0, 1), (25, .getfield 42, 3), (28, .iload 4, 2), (30, .invokevirtual 173, 3), (33, .aload_n 0, 1), (34, .getfield 30, 3), (37, .iload_n 2, 1), (38, .aaload, 1), (39, .iload_n 3, 1), (40, .iload 4, 2), (42, .iastore, 1), (43, .iinc 3 1, 3), (46, .goto (-44), 3), (49, .return_, 1)]
abbrev rm_X1_sharePages : Room := { frames := 1, cells := 0, slots := 0, locals := 21 }
abbrev y_X1_fork : MethodName := ⟨"PagingKernel", "fork", "(I)I"⟩
def T_X1_fork : am_I := [(0, .iload_n 1, 1), (1, .invokestatic 55, 3), (4, .aload_n 0, 1), (5, .iload_n 1, 1), (6, .invokevirtual 59, 3), (9, .aload_n 0, 1), (10, .invokevirtual 62, 3), (13, .istore_n 2, 1), (14, .iload_n 2, 1), (15, .iconst (-1), 1), (16, .if_icmp .ne 11, 3), (19, .new 66, 3), (22, .dup, 1), (23, .invokespecial 68, 3), (26, .athrow, 1), (27, .aload_n 0, 1), (28, .getfield 9, 3), (31, .iload_n 2, 1), (32, .iconst 1, 1), (33, .iastore, 1), (34, .aload_n 0, 1), (35, .getfield 16, 3), (38, .iload_n 2, 1), (39, .iload_n 1, 1), (40, .iastore, 1), (41, .aload_n 0, 1), (42, .getfield 13, 3), (45, .iload_n 2, 1), (46, .aload_n 0, 1), (47, .getfield 13, 3), (50, .iload_n 1, 1), (51, .iaload, 1), (52, .iastore, 1), (53, .aload_n 0, 1), (54, .getfield 22, 3), (57, .iload_n 2, 1), (58, .aload_n 0, 1), (59, .getfield 22, 3), (62, .iload_n 1, 1), (63, .iaload, 1), (64, .iastore, 1), (65, .aload_n 0, 1), (66, .getfield 25, 3), (69, .iload_n 2, 1), (70, .aload_n 0, 1), (71, .getfield 25, 3), (74, .iload_n 1, 1), (75, .iaload, 1), (76, .iastore, 1), (77, .aload_n 0, 1), (78, .iload_n 1, 1), (79, .iload_n 2, 1), (80, .invokevirtual 69, 3), (83, .iload_n 2, 1), (84, .ireturn, 1)]
abbrev rm_X1_fork : Room := { frames := 8, cells := 3, slots := 18, locals := 131 }
abbrev y_L_fork : MethodName := ⟨"PagingKernelLaw", "fork", "(LPagingKernel;I[J)I"⟩
def T_L_fork : am_I := [(0, .aload_n 2, 1), (1, .iconst 0, 1), (2, .aload_n 0, 1), (3, .iload_n 1, 1), (4, .invokevirtual 7, 3), (7, .i2l, 1), (8, .lastore, 1), (9, .goto 12, 3), (12, .astore_n 3, 1), (13, .iconst 1, 1), (14, .ireturn, 1), (15, .astore_n 3, 1), (16, .iconst 2, 1), (17, .ireturn, 1), (18, .astore_n 3, 1), (19, .iconst 3, 1), (20, .ireturn, 1), (21, .iconst 0, 1), (22, .ireturn, 1)]
abbrev rm_L_fork : Room := { frames := 9, cells := 3, slots := 18, locals := 153 }
abbrev y_X1_exec : MethodName := ⟨"PagingKernel", "exec", "(II)I"⟩
def T_X1_exec : am_I := [(0, .iload_n 1, 1), (1, .invokestatic 55, 3), (4, .iload_n 2, 1), (5, .iconst 0, 1), (6, .iconst 2, 1), (7, .invokestatic 72, 3), (10, .aload_n 0, 1), (11, .iload_n 1, 1), (12, .invokevirtual 59, 3), (15, .aload_n 0, 1), (16, .iload_n 1, 1), (17, .iload_n 2, 1), (18, .invokevirtual 52, 3), (21, .iconst 4, 1), (22, .aload_n 0, 1), (23, .getfield 22, 3), (26, .iload_n 1, 1), (27, .iaload, 1), (28, .imul, 1), (29, .ireturn, 1)]
abbrev rm_X1_exec : Room := { frames := 8, cells := 3, slots := 18, locals := 131 }
abbrev y_L_exec : MethodName := ⟨"PagingKernelLaw", "exec", "(LPagingKernel;II[J)I"⟩
def T_L_exec : am_I := [(0, .aload_n 3, 1), (1, .iconst 0, 1), (2, .aload_n 0, 1), (3, .iload_n 1, 1), (4, .iload_n 2, 1), (5, .invokevirtual 19, 3), (8, .i2l, 1), (9, .lastore, 1), (10, .goto 11, 3), (13, .astore 4, 2), (15, .iconst 1, 1), (16, .ireturn, 1), (17, .astore 4, 2), (19, .iconst 2, 1), (20, .ireturn, 1), (21, .iconst 0, 1), (22, .ireturn, 1)]
abbrev rm_L_exec : Room := { frames := 9, cells := 3, slots := 18, locals := 153 }
abbrev y_X1_orphansToFirst : MethodName := ⟨"PagingKernel", "orphansToFirst", "(I)I"⟩
def T_X1_orphansToFirst : am_I := [(0, .iconst 0, 1), (1, .istore_n 2, 1), (2, .iconst 0, 1), (3, .istore_n 3, 1), (4, .iload_n 3, 1), (5, .bipush 6, 2), (7, .if_icmp .ge 29, 3), (10, .aload_n 0, 1), (11, .getfield 16, 3), (14, .iload_n 3, 1), (15, .iaload, 1), (16, .iload_n 1, 1), (17, .if_icmp .ne 13, 3), (20, .aload_n 0, 1), (21, .getfield 16, 3), (24, .iload_n 3, 1), (25, .iconst 0, 1), (26, .iastore, 1), (27, .iinc 2 1, 3), (30, .iinc 3 1, 3), (33, .goto (-29), 3), (36, .iload_n 2, 1), (37, .ireturn, 1)]
abbrev rm_X1_orphansToFirst : Room := { frames := 0, cells := 0, slots := 0, locals := 0 }
abbrev y_X1_exit : MethodName := ⟨"PagingKernel", "exit", "(II)I"⟩
def T_X1_exit : am_I := [(0, .iload_n 1, 1), (1, .iconst 1, 1), (2, .iconst 5, 1), (3, .invokestatic 72, 3), (6, .iload_n 2, 1), (7, .iconst 0, 1), (8, .sipush 255, 3), (11, .invokestatic 72, 3), (14, .aload_n 0, 1), (15, .iload_n 1, 1), (16, .invokevirtual 59, 3), (19, .aload_n 0, 1), (20, .getfield 9, 3), (23, .iload_n 1, 1), (24, .iconst 2, 1), (25, .iastore, 1), (26, .aload_n 0, 1), (27, .getfield 19, 3), (30, .iload_n 1, 1), (31, .iload_n 2, 1), (32, .iastore, 1), (33, .aload_n 0, 1), (34, .iload_n 1, 1), (35, .iconst 0, 1), (36, .bipush 11, 2), (38, .invokevirtual 76, 3), (41, .aload_n 0, 1), (42, .iload_n 1, 1), (43, .invokevirtual 79, 3), (46, .ireturn, 1)]
abbrev rm_X1_exit : Room := { frames := 7, cells := 3, slots := 18, locals := 111 }
abbrev y_L_exit : MethodName := ⟨"PagingKernelLaw", "exit", "(LPagingKernel;II[J)I"⟩
def T_L_exit : am_I := [(0, .aload_n 3, 1), (1, .iconst 0, 1), (2, .aload_n 0, 1), (3, .iload_n 1, 1), (4, .iload_n 2, 1), (5, .invokevirtual 23, 3), (8, .i2l, 1), (9, .lastore, 1), (10, .goto 11, 3), (13, .astore 4, 2), (15, .iconst 1, 1), (16, .ireturn, 1), (17, .astore 4, 2), (19, .iconst 2, 1), (20, .ireturn, 1), (21, .iconst 0, 1), (22, .ireturn, 1)]
abbrev rm_L_exit : Room := { frames := 8, cells := 3, slots := 18, locals := 133 }
abbrev y_X1_isParent : MethodName := ⟨"PagingKernel", "isParent", "(I)Z"⟩
def T_X1_isParent : am_I := [(0, .iconst 0, 1), (1, .istore_n 2, 1), (2, .iload_n 2, 1), (3, .bipush 6, 2), (5, .if_icmp .ge 21, 3), (8, .aload_n 0, 1), (9, .getfield 16, 3), (12, .iload_n 2, 1), (13, .iaload, 1), (14, .iload_n 1, 1), (15, .if_icmp .ne 5, 3), (18, .iconst 1, 1), (19, .ireturn, 1), (20, .iinc 2 1, 3), (23, .goto (-21), 3), (26, .iconst 0, 1), (27, .ireturn, 1)]
abbrev rm_X1_isParent : Room := { frames := 0, cells := 0, slots := 0, locals := 0 }
abbrev y_X1_leastDeadChild : MethodName := ⟨"PagingKernel", "leastDeadChild", "(I)I"⟩
def T_X1_leastDeadChild : am_I := [(0, .iconst 0, 1), (1, .istore_n 2, 1), (2, .iload_n 2, 1), (3, .bipush 6, 2), (5, .if_icmp .ge 31, 3), (8, .aload_n 0, 1), (9, .getfield 16, 3), (12, .iload_n 2, 1), (13, .iaload, 1), (14, .iload_n 1, 1), (15, .if_icmp .ne 15, 3), (18, .aload_n 0, 1), (19, .getfield 9, 3), (22, .iload_n 2, 1), (23, .iaload, 1), (24, .iconst 2, 1), (25, .if_icmp .ne 5, 3), (28, .iload_n 2, 1), (29, .ireturn, 1), (30, .iinc 2 1, 3), (33, .goto (-31), 3), (36, .iconst (-1), 1), (37, .ireturn, 1)]
abbrev rm_X1_leastDeadChild : Room := { frames := 0, cells := 0, slots := 0, locals := 0 }
abbrev y_X1_await : MethodName := ⟨"PagingKernel", "await", "(I)I"⟩
def T_X1_await : am_I := [(0, .iload_n 1, 1), (1, .invokestatic 55, 3), (4, .aload_n 0, 1), (5, .iload_n 1, 1), (6, .invokevirtual 59, 3), (9, .aload_n 0, 1), (10, .iload_n 1, 1), (11, .invokevirtual 83, 3), (14, .ifCond .ne 11, 3), (17, .new 66, 3), (20, .dup, 1), (21, .invokespecial 68, 3), (24, .athrow, 1), (25, .aload_n 0, 1), (26, .iload_n 1, 1), (27, .invokevirtual 87, 3), (30, .istore_n 2, 1), (31, .iload_n 2, 1), (32, .iconst (-1), 1), (33, .if_icmp .ne 11, 3), (36, .new 90, 3), (39, .dup, 1), (40, .invokespecial 92, 3), (43, .athrow, 1), (44, .aload_n 0, 1), (45, .getfield 9, 3), (48, .iload_n 2, 1), (49, .iconst 0, 1), (50, .iastore, 1), (51, .aload_n 0, 1), (52, .getfield 16, 3), (55, .iload_n 2, 1), (56, .iconst (-1), 1), (57, .iastore, 1), (58, .sipush 256, 3), (61, .iload_n 2, 1), (62, .imul, 1), (63, .aload_n 0, 1), (64, .getfield 19, 3), (67, .iload_n 2, 1), (68, .iaload, 1), (69, .iadd, 1), (70, .ireturn, 1)]
abbrev rm_X1_await : Room := { frames := 8, cells := 4, slots := 24, locals := 131 }
abbrev y_L_await : MethodName := ⟨"PagingKernelLaw", "await", "(LPagingKernel;I[J)I"⟩
def T_L_await : am_I := [(0, .aload_n 2, 1), (1, .iconst 0, 1), (2, .aload_n 0, 1), (3, .iload_n 1, 1), (4, .invokevirtual 26, 3), (7, .i2l, 1), (8, .lastore, 1), (9, .goto 15, 3), (12, .astore_n 3, 1), (13, .iconst 1, 1), (14, .ireturn, 1), (15, .astore_n 3, 1), (16, .iconst 2, 1), (17, .ireturn, 1), (18, .astore_n 3, 1), (19, .iconst 3, 1), (20, .ireturn, 1), (21, .astore_n 3, 1), (22, .iconst 4, 1), (23, .ireturn, 1), (24, .iconst 0, 1), (25, .ireturn, 1)]
abbrev rm_L_await : Room := { frames := 9, cells := 4, slots := 24, locals := 153 }
abbrev y_X1_grow : MethodName := ⟨"PagingKernel", "grow", "(II)I"⟩
def T_X1_grow : am_I := [(0, .iload_n 1, 1), (1, .invokestatic 55, 3), (4, .iload_n 2, 1), (5, .bipush (-6), 2), (7, .bipush 6, 2), (9, .invokestatic 72, 3), (12, .aload_n 0, 1), (13, .iload_n 1, 1), (14, .invokevirtual 59, 3), (17, .aload_n 0, 1), (18, .getfield 22, 3), (21, .iload_n 1, 1), (22, .iaload, 1), (23, .istore_n 3, 1), (24, .iload_n 3, 1), (25, .iload_n 2, 1), (26, .iadd, 1), (27, .istore 4, 2), (29, .iload 4, 2), (31, .ifCond .lt 10, 3), (34, .iload 4, 2), (36, .bipush 6, 2), (38, .if_icmp .le 11, 3), (41, .new 66, 3), (44, .dup, 1), (45, .invokespecial 68, 3), (48, .athrow, 1), (49, .aload_n 0, 1), (50, .iload_n 1, 1), (51, .iconst 2, 1), (52, .iload_n 3, 1), (53, .iadd, 1), (54, .iconst 2, 1), (55, .iload 4, 2), (57, .iadd, 1), (58, .invokevirtual 93, 3), (61, .aload_n 0, 1), (62, .iload_n 1, 1), (63, .iconst 2, 1), (64, .iload 4, 2), (66, .iadd, 1), (67, .iconst 2, 1), (68, .iload_n 3, 1), (69, .iadd, 1), (70, .invokevirtual 76, 3), (73, .aload_n 0, 1), (74, .getfield 22, 3), (77, .iload_n 1, 1), (78, .iload 4, 2), (80, .iastore, 1), (81, .iload 4, 2), (83, .ireturn, 1)]
abbrev rm_X1_grow : Room := { frames := 8, cells := 4, slots := 24, locals := 131 }
abbrev y_L_grow : MethodName := ⟨"PagingKernelLaw", "grow", "(LPagingKernel;II[J)I"⟩
def T_L_grow : am_I := [(0, .aload_n 3, 1), (1, .iconst 0, 1), (2, .aload_n 0, 1), (3, .iload_n 1, 1), (4, .iload_n 2, 1), (5, .invokevirtual 31, 3), (8, .i2l, 1), (9, .lastore, 1), (10, .goto 15, 3), (13, .astore 4, 2), (15, .iconst 1, 1), (16, .ireturn, 1), (17, .astore 4, 2), (19, .iconst 2, 1), (20, .ireturn, 1), (21, .astore 4, 2), (23, .iconst 3, 1), (24, .ireturn, 1), (25, .iconst 0, 1), (26, .ireturn, 1)]
abbrev rm_L_grow : Room := { frames := 9, cells := 4, slots := 24, locals := 155 }
abbrev y_X1_checkAddress : MethodName := ⟨"PagingKernel", "checkAddress", "(II)V"⟩
def T_X1_checkAddress : am_I := [(0, .iload_n 1, 1), (1, .invokestatic 55, 3), (4, .iload_n 2, 1), (5, .iconst 0, 1), (6, .bipush 43, 2), (8, .invokestatic 72, 3), (11, .aload_n 0, 1), (12, .iload_n 1, 1), (13, .invokevirtual 59, 3), (16, .return_, 1)]
abbrev rm_X1_checkAddress : Room := { frames := 8, cells := 3, slots := 18, locals := 131 }
abbrev y_X1_growStackTo : MethodName := ⟨"PagingKernel", "growStackTo", "(II)V"⟩
def T_X1_growStackTo : am_I := [(0, .bipush 11, 2), (2, .aload_n 0, 1), (3, .getfield 25, 3), (6, .iload_n 1, 1), (7, .iaload, 1), (8, .isub, 1), (9, .istore_n 3, 1), (10, .iload_n 2, 1), (11, .bipush 8, 2), (13, .if_icmp .lt 25, 3), (16, .iload_n 2, 1), (17, .iload_n 3, 1), (18, .if_icmp .ge 20, 3), (21, .aload_n 0, 1), (22, .iload_n 1, 1), (23, .iload_n 2, 1), (24, .iload_n 3, 1), (25, .invokevirtual 93, 3), (28, .aload_n 0, 1), (29, .getfield 25, 3), (32, .iload_n 1, 1), (33, .bipush 11, 2), (35, .iload_n 2, 1), (36, .isub, 1), (37, .iastore, 1), (38, .return_, 1)]
abbrev rm_X1_growStackTo : Room := { frames := 2, cells := 0, slots := 0, locals := 46 }
abbrev y_X1_pageThere : MethodName := ⟨"PagingKernel", "pageThere", "(II)I"⟩
def T_X1_pageThere : am_I := [(0, .aload_n 0, 1), (1, .getfield 30, 3), (4, .iload_n 1, 1), (5, .aaload, 1), (6, .iload_n 2, 1), (7, .iaload, 1), (8, .istore_n 3, 1), (9, .iload_n 3, 1), (10, .iconst (-1), 1), (11, .if_icmp .ne 11, 3), (14, .new 167, 3), (17, .dup, 1), (18, .invokespecial 169, 3), (21, .athrow, 1), (22, .iload_n 3, 1), (23, .ireturn, 1)]
abbrev rm_X1_pageThere : Room := { frames := 6, cells := 1, slots := 6, locals := 89 }
abbrev y_X0_leastFree : MethodName := ⟨"PagingKernel$Memory", "leastFree", "([I)I"⟩
def T_X0_leastFree : am_I := [(0, .iconst 0, 1), (1, .istore_n 1, 1), (2, .iload_n 1, 1), (3, .aload_n 0, 1), (4, .arraylength, 1), (5, .if_icmp .ge 18, 3), (8, .aload_n 0, 1), (9, .iload_n 1, 1), (10, .iaload, 1), (11, .iconst (-1), 1), (12, .if_icmp .ne 5, 3), (15, .iload_n 1, 1), (16, .ireturn, 1), (17, .iinc 1 1, 3), (20, .goto (-18), 3), (23, .iconst (-1), 1), (24, .ireturn, 1)]
abbrev rm_X0_leastFree : Room := { frames := 0, cells := 0, slots := 0, locals := 0 }
abbrev y_X0_isText : MethodName := ⟨"PagingKernel$Memory", "isText", "(I)Z"⟩
def T_X0_isText : am_I := [(0, .iload_n 0, 1), (1, .bipush 6, 2), (3, .if_icmp .ge 7, 3), (6, .iconst 1, 1), (7, .goto 4, 3), (10, .iconst 0, 1), (11, .ireturn, 1)]
abbrev rm_X0_isText : Room := { frames := 0, cells := 0, slots := 0, locals := 0 }
abbrev y_X0_canGo : MethodName := ⟨"PagingKernel$Memory", "canGo", "(I)Z"⟩
def T_X0_canGo : am_I := [(0, .iload_n 1, 1), (1, .invokestatic 98, 3), (4, .ifCond .ne 14, 3), (7, .aload_n 0, 1), (8, .getfield 41, 3), (11, .invokestatic 91, 3), (14, .iconst (-1), 1), (15, .if_icmp .eq 7, 3), (18, .iconst 1, 1), (19, .goto 4, 3), (22, .iconst 0, 1), (23, .ireturn, 1)]
abbrev rm_X0_canGo : Room := { frames := 1, cells := 0, slots := 0, locals := 21 }
abbrev y_X0_sendOut : MethodName := ⟨"PagingKernel$Memory", "sendOut", "(I)V"⟩
def T_X0_sendOut : am_I := [(0, .iload_n 1, 1), (1, .invokestatic 98, 3), (4, .ifCond .eq 7, 3), (7, .iconst (-1), 1), (8, .goto 10, 3), (11, .aload_n 0, 1), (12, .getfield 41, 3), (15, .invokestatic 91, 3), (18, .istore_n 2, 1), (19, .aload_n 0, 1), (20, .iload_n 1, 1), (21, .invokevirtual 54, 3), (24, .iload_n 2, 1), (25, .iconst (-1), 1), (26, .if_icmp .eq 20, 3), (29, .aload_n 0, 1), (30, .getfield 41, 3), (33, .iload_n 2, 1), (34, .iload_n 1, 1), (35, .iastore, 1), (36, .aload_n 0, 1), (37, .getfield 18, 3), (40, .iload_n 1, 1), (41, .bipush 100, 2), (43, .iload_n 2, 1), (44, .iadd, 1), (45, .iastore, 1), (46, .aload_n 0, 1), (47, .dup, 1), (48, .getfield 31, 3), (51, .iconst 1, 1), (52, .iadd, 1), (53, .putfield 31, 3), (56, .return_, 1)]
abbrev rm_X0_sendOut : Room := { frames := 2, cells := 0, slots := 0, locals := 42 }
abbrev y_X0_lookAndMoveOn : MethodName := ⟨"PagingKernel$Memory", "lookAndMoveOn", "()Z"⟩
def T_X0_lookAndMoveOn : am_I := [(0, .aload_n 0, 1), (1, .getfield 34, 3), (4, .aload_n 0, 1), (5, .getfield 21, 3), (8, .iaload, 1), (9, .istore_n 1, 1), (10, .iload_n 1, 1), (11, .iconst (-1), 1), (12, .if_icmp .eq 27, 3), (15, .aload_n 0, 1), (16, .getfield 37, 3), (19, .aload_n 0, 1), (20, .getfield 21, 3), (23, .baload, 1), (24, .ifCond .ne 15, 3), (27, .aload_n 0, 1), (28, .iload_n 1, 1), (29, .invokevirtual 85, 3), (32, .ifCond .eq 7, 3), (35, .iconst 1, 1), (36, .goto 4, 3), (39, .iconst 0, 1), (40, .istore_n 2, 1), (41, .iload_n 2, 1), (42, .ifCond .eq 8, 3), (45, .aload_n 0, 1), (46, .iload_n 1, 1), (47, .invokevirtual 88, 3), (50, .aload_n 0, 1), (51, .getfield 37, 3), (54, .aload_n 0, 1), (55, .getfield 21, 3), (58, .iconst 0, 1), (59, .bastore, 1), (60, .aload_n 0, 1), (61, .aload_n 0, 1), (62, .getfield 21, 3), (65, .iconst 1, 1), (66, .iadd, 1), (67, .aload_n 0, 1), (68, .getfield 34, 3), (71, .arraylength, 1), (72, .if_icmp .ge 12, 3), (75, .aload_n 0, 1), (76, .getfield 21, 3), (79, .iconst 1, 1), (80, .iadd, 1), (81, .goto 4, 3), (84, .iconst 0, 1), (85, .putfield 21, 3), (88, .iload_n 2, 1), (89, .ireturn, 1)]
abbrev rm_X0_lookAndMoveOn : Room := { frames := 3, cells := 0, slots := 0, locals := 64 }
abbrev y_X0_getFrame : MethodName := ⟨"PagingKernel$Memory", "getFrame", "()I"⟩
def T_X0_getFrame : am_I := [(0, .aload_n 0, 1), (1, .getfield 34, 3), (4, .invokestatic 91, 3), (7, .istore_n 1, 1), (8, .iload_n 1, 1), (9, .iconst (-1), 1), (10, .if_icmp .eq 5, 3), (13, .iload_n 1, 1), (14, .ireturn, 1), (15, .iconst 0, 1), (16, .istore_n 2, 1), (17, .iload_n 2, 1), (18, .iconst 2, 1), (19, .aload_n 0, 1), (20, .getfield 34, 3), (23, .arraylength, 1), (24, .imul, 1), (25, .if_icmp .ge 23, 3), (28, .aload_n 0, 1), (29, .getfield 21, 3), (32, .istore_n 3, 1), (33, .aload_n 0, 1), (34, .invokevirtual 94, 3), (37, .ifCond .eq 5, 3), (40, .iload_n 3, 1), (41, .ireturn, 1), (42, .iinc 2 1, 3), (45, .goto (-28), 3), (48, .iconst (-1), 1), (49, .ireturn, 1)]
abbrev rm_X0_getFrame : Room := { frames := 4, cells := 0, slots := 0, locals := 86 }
abbrev y_X0_settle : MethodName := ⟨"PagingKernel$Memory", "settle", "(II)V"⟩
def T_X0_settle : am_I := [(0, .aload_n 0, 1), (1, .getfield 34, 3), (4, .iload_n 2, 1), (5, .iload_n 1, 1), (6, .iastore, 1), (7, .aload_n 0, 1), (8, .getfield 18, 3), (11, .iload_n 1, 1), (12, .iload_n 2, 1), (13, .iastore, 1), (14, .aload_n 0, 1), (15, .getfield 37, 3), (18, .iload_n 2, 1), (19, .iconst 1, 1), (20, .bastore, 1), (21, .return_, 1)]
abbrev rm_X0_settle : Room := { frames := 0, cells := 0, slots := 0, locals := 0 }
abbrev y_X0_touch : MethodName := ⟨"PagingKernel$Memory", "touch", "(I)Z"⟩
def T_X0_touch : am_I := [(0, .aload_n 0, 1), (1, .iload_n 1, 1), (2, .invokevirtual 58, 3), (5, .ifCond .eq 17, 3), (8, .aload_n 0, 1), (9, .getfield 37, 3), (12, .aload_n 0, 1), (13, .getfield 18, 3), (16, .iload_n 1, 1), (17, .iaload, 1), (18, .iconst 1, 1), (19, .bastore, 1), (20, .iconst 1, 1), (21, .ireturn, 1), (22, .aload_n 0, 1), (23, .invokevirtual 62, 3), (26, .istore_n 2, 1), (27, .iload_n 2, 1), (28, .iconst (-1), 1), (29, .if_icmp .ne 5, 3), (32, .iconst 0, 1), (33, .ireturn, 1), (34, .aload_n 0, 1), (35, .iload_n 1, 1), (36, .invokevirtual 54, 3), (39, .aload_n 0, 1), (40, .iload_n 1, 1), (41, .iload_n 2, 1), (42, .invokevirtual 66, 3), (45, .aload_n 0, 1), (46, .dup, 1), (47, .getfield 25, 3), (50, .iconst 1, 1), (51, .iadd, 1), (52, .putfield 25, 3), (55, .iconst 1, 1), (56, .ireturn, 1)]
abbrev rm_X0_touch : Room := { frames := 5, cells := 0, slots := 0, locals := 109 }
abbrev y_X0_wordOf : MethodName := ⟨"PagingKernel$Memory", "wordOf", "(II)I"⟩
def T_X0_wordOf : am_I := [(0, .aload_n 0, 1), (1, .getfield 11, 3), (4, .iload_n 1, 1), (5, .iconst 4, 1), (6, .imul, 1), (7, .iload_n 2, 1), (8, .iadd, 1), (9, .iaload, 1), (10, .ireturn, 1)]
abbrev rm_X0_wordOf : Room := { frames := 0, cells := 0, slots := 0, locals := 0 }
abbrev y_X1_read : MethodName := ⟨"PagingKernel", "read", "(II)I"⟩
def T_X1_read : am_I := [(0, .aload_n 0, 1), (1, .iload_n 1, 1), (2, .iload_n 2, 1), (3, .invokevirtual 96, 3), (6, .aload_n 0, 1), (7, .iload_n 1, 1), (8, .iload_n 2, 1), (9, .iconst 4, 1), (10, .idiv, 1), (11, .invokevirtual 99, 3), (14, .aload_n 0, 1), (15, .iload_n 1, 1), (16, .iload_n 2, 1), (17, .iconst 4, 1), (18, .idiv, 1), (19, .invokevirtual 102, 3), (22, .istore_n 3, 1), (23, .aload_n 0, 1), (24, .getfield 42, 3), (27, .iload_n 3, 1), (28, .invokevirtual 106, 3), (31, .ifCond .ne 11, 3), (34, .new 90, 3), (37, .dup, 1), (38, .invokespecial 92, 3), (41, .athrow, 1), (42, .aload_n 0, 1), (43, .getfield 42, 3), (46, .iload_n 3, 1), (47, .iload_n 2, 1), (48, .iconst 4, 1), (49, .irem, 1), (50, .invokevirtual 109, 3), (53, .ireturn, 1)]
abbrev rm_X1_read : Room := { frames := 9, cells := 5, slots := 30, locals := 153 }
abbrev y_L_read : MethodName := ⟨"PagingKernelLaw", "read", "(LPagingKernel;II[J)I"⟩
def T_L_read : am_I := [(0, .aload_n 3, 1), (1, .iconst 0, 1), (2, .aload_n 0, 1), (3, .iload_n 1, 1), (4, .iload_n 2, 1), (5, .invokevirtual 34, 3), (8, .i2l, 1), (9, .lastore, 1), (10, .goto 19, 3), (13, .astore 4, 2), (15, .iconst 1, 1), (16, .ireturn, 1), (17, .astore 4, 2), (19, .iconst 2, 1), (20, .ireturn, 1), (21, .astore 4, 2), (23, .iconst 3, 1), (24, .ireturn, 1), (25, .astore 4, 2), (27, .iconst 4, 1), (28, .ireturn, 1), (29, .iconst 0, 1), (30, .ireturn, 1)]
abbrev rm_L_read : Room := { frames := 10, cells := 5, slots := 30, locals := 176 }
abbrev y_X0_touchOwn : MethodName := ⟨"PagingKernel$Memory", "touchOwn", "(I)I"⟩
def T_X0_touchOwn : am_I := [(0, .aload_n 0, 1), (1, .iload_n 1, 1), (2, .invokevirtual 70, 3), (5, .ifCond .ne 5, 3), (8, .iconst (-1), 1), (9, .ireturn, 1), (10, .aload_n 0, 1), (11, .getfield 15, 3), (14, .iload_n 1, 1), (15, .iaload, 1), (16, .iconst 1, 1), (17, .if_icmp .ne 5, 3), (20, .iload_n 1, 1), (21, .ireturn, 1), (22, .aload_n 0, 1), (23, .invokevirtual 62, 3), (26, .istore_n 2, 1), (27, .iload_n 2, 1), (28, .iconst (-1), 1), (29, .if_icmp .ne 5, 3), (32, .iconst (-1), 1), (33, .ireturn, 1), (34, .aload_n 0, 1), (35, .invokevirtual 73, 3), (38, .istore_n 3, 1), (39, .aload_n 0, 1), (40, .getfield 11, 3), (43, .iload_n 1, 1), (44, .iconst 4, 1), (45, .imul, 1), (46, .aload_n 0, 1), (47, .getfield 11, 3), (50, .iload_n 3, 1), (51, .iconst 4, 1), (52, .imul, 1), (53, .iconst 4, 1), (54, .invokestatic 76, 3), (57, .aload_n 0, 1), (58, .iload_n 3, 1), (59, .iload_n 2, 1), (60, .invokevirtual 66, 3), (63, .aload_n 0, 1), (64, .dup, 1), (65, .getfield 28, 3), (68, .iconst 1, 1), (69, .iadd, 1), (70, .putfield 28, 3), (73, .aload_n 0, 1), (74, .iload_n 1, 1), (75, .invokevirtual 82, 3), (78, .iload_n 3, 1), (79, .ireturn, 1)]
abbrev rm_X0_touchOwn : Room := { frames := 6, cells := 0, slots := 0, locals := 131 }
abbrev y_X0_replaceWord : MethodName := ⟨"PagingKernel$Memory", "replaceWord", "(III)I"⟩
def T_X0_replaceWord : am_I := [(0, .aload_n 0, 1), (1, .getfield 11, 3), (4, .iload_n 1, 1), (5, .iconst 4, 1), (6, .imul, 1), (7, .iload_n 2, 1), (8, .iadd, 1), (9, .iaload, 1), (10, .istore 4, 2), (12, .aload_n 0, 1), (13, .getfield 11, 3), (16, .iload_n 1, 1), (17, .iconst 4, 1), (18, .imul, 1), (19, .iload_n 2, 1), (20, .iadd, 1), (21, .iload_n 3, 1), (22, .iastore, 1), (23, .iload 4, 2), (25, .ireturn, 1)]
abbrev rm_X0_replaceWord : Room := { frames := 0, cells := 0, slots := 0, locals := 0 }
abbrev y_X1_write : MethodName := ⟨"PagingKernel", "write", "(III)I"⟩
def T_X1_write : am_I := [(0, .aload_n 0, 1), (1, .iload_n 1, 1), (2, .iload_n 2, 1), (3, .invokevirtual 96, 3), (6, .iload_n 2, 1), (7, .iconst 4, 1), (8, .idiv, 1), (9, .istore 4, 2), (11, .aload_n 0, 1), (12, .iload_n 1, 1), (13, .iload 4, 2), (15, .invokevirtual 99, 3), (18, .aload_n 0, 1), (19, .iload_n 1, 1), (20, .iload 4, 2), (22, .invokevirtual 102, 3), (25, .istore 5, 2), (27, .iload 4, 2), (29, .iconst 2, 1), (30, .if_icmp .ge 11, 3), (33, .new 66, 3), (36, .dup, 1), (37, .invokespecial 68, 3), (40, .athrow, 1), (41, .aload_n 0, 1), (42, .getfield 42, 3), (45, .iload 5, 2), (47, .invokevirtual 112, 3), (50, .istore 6, 2), (52, .iload 6, 2), (54, .iconst (-1), 1), (55, .if_icmp .ne 11, 3), (58, .new 90, 3), (61, .dup, 1), (62, .invokespecial 92, 3), (65, .athrow, 1), (66, .aload_n 0, 1), (67, .getfield 30, 3), (70, .iload_n 1, 1), (71, .aaload, 1), (72, .iload 4, 2), (74, .iload 6, 2), (76, .iastore, 1), (77, .aload_n 0, 1), (78, .getfield 42, 3), (81, .iload 6, 2), (83, .iload_n 2, 1), (84, .iconst 4, 1), (85, .irem, 1), (86, .iload_n 3, 1), (87, .invokevirtual 115, 3), (90, .ireturn, 1)]
abbrev rm_X1_write : Room := { frames := 9, cells := 6, slots := 36, locals := 154 }
abbrev y_L_write : MethodName := ⟨"PagingKernelLaw", "write", "(LPagingKernel;III[J)I"⟩
def T_L_write : am_I := [(0, .aload 4, 2), (2, .iconst 0, 1), (3, .aload_n 0, 1), (4, .iload_n 1, 1), (5, .iload_n 2, 1), (6, .iload_n 3, 1), (7, .invokevirtual 39, 3), (10, .i2l, 1), (11, .lastore, 1), (12, .goto 23, 3), (15, .astore 5, 2), (17, .iconst 1, 1), (18, .ireturn, 1), (19, .astore 5, 2), (21, .iconst 2, 1), (22, .ireturn, 1), (23, .astore 5, 2), (25, .iconst 3, 1), (26, .ireturn, 1), (27, .astore 5, 2), (29, .iconst 4, 1), (30, .ireturn, 1), (31, .astore 5, 2), (33, .iconst 5, 1), (34, .ireturn, 1), (35, .iconst 0, 1), (36, .ireturn, 1)]
abbrev rm_L_write : Room := { frames := 10, cells := 6, slots := 36, locals := 180 }
abbrev y_X1_sweep : MethodName := ⟨"PagingKernel", "sweep", "(I)I"⟩
def T_X1_sweep : am_I := [(0, .iload_n 1, 1), (1, .iconst 1, 1), (2, .bipush 20, 2), (4, .invokestatic 72, 3), (7, .iconst 0, 1), (8, .istore_n 2, 1), (9, .iconst 0, 1), (10, .istore_n 3, 1), (11, .iload_n 3, 1), (12, .iload_n 1, 1), (13, .if_icmp .ge 22, 3), (16, .aload_n 0, 1), (17, .getfield 42, 3), (20, .invokevirtual 118, 3), (23, .ifCond .eq 6, 3), (26, .iinc 2 1, 3), (29, .iinc 3 1, 3), (32, .goto (-21), 3), (35, .iload_n 2, 1), (36, .ireturn, 1)]
abbrev rm_X1_sweep : Room := { frames := 7, cells := 1, slots := 6, locals := 111 }
abbrev y_L_sweep : MethodName := ⟨"PagingKernelLaw", "sweep", "(LPagingKernel;I[J)I"⟩
def T_L_sweep : am_I := [(0, .aload_n 2, 1), (1, .iconst 0, 1), (2, .aload_n 0, 1), (3, .iload_n 1, 1), (4, .invokevirtual 43, 3), (7, .i2l, 1), (8, .lastore, 1), (9, .goto 6, 3), (12, .astore_n 3, 1), (13, .iconst 1, 1), (14, .ireturn, 1), (15, .iconst 0, 1), (16, .ireturn, 1)]
abbrev rm_L_sweep : Room := { frames := 8, cells := 1, slots := 6, locals := 134 }
abbrev y_X0_sendOutIfUnshared : MethodName := ⟨"PagingKernel$Memory", "sendOutIfUnshared", "(I)Z"⟩
def T_X0_sendOutIfUnshared : am_I := [(0, .aload_n 0, 1), (1, .iload_n 1, 1), (2, .invokevirtual 58, 3), (5, .ifCond .eq 25, 3), (8, .aload_n 0, 1), (9, .getfield 15, 3), (12, .iload_n 1, 1), (13, .iaload, 1), (14, .iconst 1, 1), (15, .if_icmp .ne 15, 3), (18, .aload_n 0, 1), (19, .iload_n 1, 1), (20, .invokevirtual 85, 3), (23, .ifCond .eq 7, 3), (26, .iconst 1, 1), (27, .goto 4, 3), (30, .iconst 0, 1), (31, .istore_n 2, 1), (32, .iload_n 2, 1), (33, .ifCond .eq 8, 3), (36, .aload_n 0, 1), (37, .iload_n 1, 1), (38, .invokevirtual 88, 3), (41, .iload_n 2, 1), (42, .ireturn, 1)]
abbrev rm_X0_sendOutIfUnshared : Room := { frames := 3, cells := 0, slots := 0, locals := 64 }
abbrev y_X1_swapOut : MethodName := ⟨"PagingKernel", "swapOut", "(I)I"⟩
def T_X1_swapOut : am_I := [(0, .iload_n 1, 1), (1, .invokestatic 55, 3), (4, .aload_n 0, 1), (5, .iload_n 1, 1), (6, .invokevirtual 59, 3), (9, .iconst 0, 1), (10, .istore_n 2, 1), (11, .iconst 2, 1), (12, .istore_n 3, 1), (13, .iload_n 3, 1), (14, .bipush 11, 2), (16, .if_icmp .ge 40, 3), (19, .aload_n 0, 1), (20, .getfield 30, 3), (23, .iload_n 1, 1), (24, .aaload, 1), (25, .iload_n 3, 1), (26, .iaload, 1), (27, .istore 4, 2), (29, .iload 4, 2), (31, .iconst (-1), 1), (32, .if_icmp .eq 18, 3), (35, .aload_n 0, 1), (36, .getfield 42, 3), (39, .iload 4, 2), (41, .invokevirtual 122, 3), (44, .ifCond .eq 6, 3), (47, .iinc 2 1, 3), (50, .iinc 3 1, 3), (53, .goto (-40), 3), (56, .iload_n 2, 1), (57, .ireturn, 1)]
abbrev rm_X1_swapOut : Room := { frames := 8, cells := 2, slots := 12, locals := 131 }
abbrev y_L_swapOut : MethodName := ⟨"PagingKernelLaw", "swapOut", "(LPagingKernel;I[J)I"⟩
def T_L_swapOut : am_I := [(0, .aload_n 2, 1), (1, .iconst 0, 1), (2, .aload_n 0, 1), (3, .iload_n 1, 1), (4, .invokevirtual 46, 3), (7, .i2l, 1), (8, .lastore, 1), (9, .goto 9, 3), (12, .astore_n 3, 1), (13, .iconst 1, 1), (14, .ireturn, 1), (15, .astore_n 3, 1), (16, .iconst 2, 1), (17, .ireturn, 1), (18, .iconst 0, 1), (19, .ireturn, 1)]
abbrev rm_L_swapOut : Room := { frames := 9, cells := 2, slots := 12, locals := 155 }
abbrev y_X0_homeOf : MethodName := ⟨"PagingKernel$Memory", "homeOf", "(I)I"⟩
def T_X0_homeOf : am_I := [(0, .aload_n 0, 1), (1, .getfield 18, 3), (4, .iload_n 1, 1), (5, .iaload, 1), (6, .ireturn, 1)]
abbrev rm_X0_homeOf : Room := { frames := 0, cells := 0, slots := 0, locals := 0 }
abbrev y_X1_where : MethodName := ⟨"PagingKernel", "where", "(II)I"⟩
def T_X1_where : am_I := [(0, .aload_n 0, 1), (1, .iload_n 1, 1), (2, .iload_n 2, 1), (3, .invokevirtual 96, 3), (6, .aload_n 0, 1), (7, .getfield 42, 3), (10, .aload_n 0, 1), (11, .iload_n 1, 1), (12, .iload_n 2, 1), (13, .iconst 4, 1), (14, .idiv, 1), (15, .invokevirtual 102, 3), (18, .invokevirtual 125, 3), (21, .ireturn, 1)]
abbrev rm_X1_where : Room := { frames := 9, cells := 4, slots := 24, locals := 153 }
abbrev y_L_where : MethodName := ⟨"PagingKernelLaw", "where", "(LPagingKernel;II[J)I"⟩
def T_L_where : am_I := [(0, .aload_n 3, 1), (1, .iconst 0, 1), (2, .aload_n 0, 1), (3, .iload_n 1, 1), (4, .iload_n 2, 1), (5, .invokevirtual 49, 3), (8, .i2l, 1), (9, .lastore, 1), (10, .goto 15, 3), (13, .astore 4, 2), (15, .iconst 1, 1), (16, .ireturn, 1), (17, .astore 4, 2), (19, .iconst 2, 1), (20, .ireturn, 1), (21, .astore 4, 2), (23, .iconst 3, 1), (24, .ireturn, 1), (25, .iconst 0, 1), (26, .ireturn, 1)]
abbrev rm_L_where : Room := { frames := 10, cells := 4, slots := 24, locals := 175 }
abbrev y_X0_usersOf : MethodName := ⟨"PagingKernel$Memory", "usersOf", "(I)I"⟩
def T_X0_usersOf : am_I := [(0, .aload_n 0, 1), (1, .getfield 15, 3), (4, .iload_n 1, 1), (5, .iaload, 1), (6, .ireturn, 1)]
abbrev rm_X0_usersOf : Room := { frames := 0, cells := 0, slots := 0, locals := 0 }
abbrev y_X1_sharers : MethodName := ⟨"PagingKernel", "sharers", "(II)I"⟩
def T_X1_sharers : am_I := [(0, .aload_n 0, 1), (1, .iload_n 1, 1), (2, .iload_n 2, 1), (3, .invokevirtual 96, 3), (6, .aload_n 0, 1), (7, .getfield 42, 3), (10, .aload_n 0, 1), (11, .iload_n 1, 1), (12, .iload_n 2, 1), (13, .iconst 4, 1), (14, .idiv, 1), (15, .invokevirtual 102, 3), (18, .invokevirtual 128, 3), (21, .ireturn, 1)]
abbrev rm_X1_sharers : Room := { frames := 9, cells := 4, slots := 24, locals := 153 }
abbrev y_L_sharers : MethodName := ⟨"PagingKernelLaw", "sharers", "(LPagingKernel;II[J)I"⟩
def T_L_sharers : am_I := [(0, .aload_n 3, 1), (1, .iconst 0, 1), (2, .aload_n 0, 1), (3, .iload_n 1, 1), (4, .iload_n 2, 1), (5, .invokevirtual 52, 3), (8, .i2l, 1), (9, .lastore, 1), (10, .goto 15, 3), (13, .astore 4, 2), (15, .iconst 1, 1), (16, .ireturn, 1), (17, .astore 4, 2), (19, .iconst 2, 1), (20, .ireturn, 1), (21, .astore 4, 2), (23, .iconst 3, 1), (24, .ireturn, 1), (25, .iconst 0, 1), (26, .ireturn, 1)]
abbrev rm_L_sharers : Room := { frames := 10, cells := 4, slots := 24, locals := 175 }
abbrev y_X1_fact : MethodName := ⟨"PagingKernel", "fact", "(II)I"⟩
def T_X1_fact : am_I := [(0, .iload_n 1, 1), (1, .invokestatic 55, 3), (4, .iload_n 2, 1), (5, .iconst 0, 1), (6, .iconst 4, 1), (7, .invokestatic 72, 3), (10, .iload_n 2, 1), (11, .ifCond .ne 10, 3), (14, .aload_n 0, 1), (15, .getfield 9, 3), (18, .iload_n 1, 1), (19, .iaload, 1), (20, .ireturn, 1), (21, .iload_n 2, 1), (22, .iconst 2, 1), (23, .if_icmp .ne 10, 3), (26, .aload_n 0, 1), (27, .getfield 16, 3), (30, .iload_n 1, 1), (31, .iaload, 1), (32, .ireturn, 1), (33, .aload_n 0, 1), (34, .getfield 9, 3), (37, .iload_n 1, 1), (38, .iaload, 1), (39, .iconst 1, 1), (40, .if_icmp .eq 5, 3), (43, .iconst (-1), 1), (44, .ireturn, 1), (45, .iload_n 2, 1), (46, .lookupswitch 40 #[(1, 26), (3, 33)], 26), (72, .aload_n 0, 1), (73, .getfield 13, 3), (76, .iload_n 1, 1), (77, .iaload, 1), (78, .ireturn, 1), (79, .aload_n 0, 1), (80, .getfield 22, 3), (83, .iload_n 1, 1), (84, .iaload, 1), (85, .ireturn, 1), (86, .aload_n 0, 1), (87, .getfield 25, 3), (90, .iload_n 1, 1), (91, .iaload, 1), (92, .ireturn, 1)]
abbrev rm_X1_fact : Room := { frames := 8, cells := 2, slots := 12, locals := 131 }
abbrev y_L_fact : MethodName := ⟨"PagingKernelLaw", "fact", "(LPagingKernel;II[J)I"⟩
def T_L_fact : am_I := [(0, .aload_n 3, 1), (1, .iconst 0, 1), (2, .aload_n 0, 1), (3, .iload_n 1, 1), (4, .iload_n 2, 1), (5, .invokevirtual 55, 3), (8, .i2l, 1), (9, .lastore, 1), (10, .goto 7, 3), (13, .astore 4, 2), (15, .iconst 1, 1), (16, .ireturn, 1), (17, .iconst 0, 1), (18, .ireturn, 1)]
abbrev rm_L_fact : Room := { frames := 9, cells := 2, slots := 12, locals := 153 }
abbrev y_X0_howManyFree : MethodName := ⟨"PagingKernel$Memory", "howManyFree", "([I)I"⟩
def T_X0_howManyFree : am_I := [(0, .iconst 0, 1), (1, .istore_n 1, 1), (2, .iconst 0, 1), (3, .istore_n 2, 1), (4, .iload_n 2, 1), (5, .aload_n 0, 1), (6, .arraylength, 1), (7, .if_icmp .ge 19, 3), (10, .aload_n 0, 1), (11, .iload_n 2, 1), (12, .iaload, 1), (13, .iconst (-1), 1), (14, .if_icmp .ne 6, 3), (17, .iinc 1 1, 3), (20, .iinc 2 1, 3), (23, .goto (-19), 3), (26, .iload_n 1, 1), (27, .ireturn, 1)]
abbrev rm_X0_howManyFree : Room := { frames := 0, cells := 0, slots := 0, locals := 0 }
abbrev y_X0_freeFrames : MethodName := ⟨"PagingKernel$Memory", "freeFrames", "()I"⟩
def T_X0_freeFrames : am_I := [(0, .aload_n 0, 1), (1, .getfield 34, 3), (4, .invokestatic 50, 3), (7, .ireturn, 1)]
abbrev rm_X0_freeFrames : Room := { frames := 1, cells := 0, slots := 0, locals := 22 }
abbrev y_X0_freeSlots : MethodName := ⟨"PagingKernel$Memory", "freeSlots", "()I"⟩
def T_X0_freeSlots : am_I := [(0, .aload_n 0, 1), (1, .getfield 41, 3), (4, .invokestatic 50, 3), (7, .ireturn, 1)]
abbrev rm_X0_freeSlots : Room := { frames := 1, cells := 0, slots := 0, locals := 22 }
abbrev y_X0_markOf : MethodName := ⟨"PagingKernel$Memory", "markOf", "(I)I"⟩
def T_X0_markOf : am_I := [(0, .iload_n 1, 1), (1, .aload_n 0, 1), (2, .getfield 34, 3), (5, .arraylength, 1), (6, .if_icmp .ge 13, 3), (9, .aload_n 0, 1), (10, .getfield 34, 3), (13, .iload_n 1, 1), (14, .iaload, 1), (15, .iconst (-1), 1), (16, .if_icmp .ne 5, 3), (19, .iconst (-1), 1), (20, .ireturn, 1), (21, .aload_n 0, 1), (22, .getfield 37, 3), (25, .iload_n 1, 1), (26, .baload, 1), (27, .ifCond .eq 7, 3), (30, .iconst 1, 1), (31, .goto 4, 3), (34, .iconst 0, 1), (35, .ireturn, 1)]
abbrev rm_X0_markOf : Room := { frames := 0, cells := 0, slots := 0, locals := 0 }
abbrev y_X1_count : MethodName := ⟨"PagingKernel", "count", "(I)I"⟩
def T_X1_count : am_I := [(0, .iload_n 1, 1), (1, .iconst 0, 1), (2, .bipush 15, 2), (4, .invokestatic 72, 3), (7, .iload_n 1, 1), (8, .tableswitch 88 0 5 #[40, 48, 56, 64, 72, 80], 40), (48, .aload_n 0, 1), (49, .getfield 42, 3), (52, .invokevirtual 131, 3), (55, .ireturn, 1), (56, .aload_n 0, 1), (57, .getfield 42, 3), (60, .invokevirtual 134, 3), (63, .ireturn, 1), (64, .aload_n 0, 1), (65, .getfield 42, 3), (68, .getfield 137, 3), (71, .ireturn, 1), (72, .aload_n 0, 1), (73, .getfield 42, 3), (76, .getfield 141, 3), (79, .ireturn, 1), (80, .aload_n 0, 1), (81, .getfield 42, 3), (84, .getfield 144, 3), (87, .ireturn, 1), (88, .aload_n 0, 1), (89, .getfield 42, 3), (92, .getfield 147, 3), (95, .ireturn, 1), (96, .aload_n 0, 1), (97, .getfield 42, 3), (100, .iload_n 1, 1), (101, .bipush 6, 2), (103, .isub, 1), (104, .invokevirtual 150, 3), (107, .ireturn, 1)]
abbrev rm_X1_count : Room := { frames := 7, cells := 1, slots := 6, locals := 111 }
abbrev y_L_count : MethodName := ⟨"PagingKernelLaw", "count", "(LPagingKernel;I[J)I"⟩
def T_L_count : am_I := [(0, .aload_n 2, 1), (1, .iconst 0, 1), (2, .aload_n 0, 1), (3, .iload_n 1, 1), (4, .invokevirtual 58, 3), (7, .i2l, 1), (8, .lastore, 1), (9, .goto 6, 3), (12, .astore_n 3, 1), (13, .iconst 1, 1), (14, .ireturn, 1), (15, .iconst 0, 1), (16, .ireturn, 1)]
abbrev rm_L_count : Room := { frames := 8, cells := 1, slots := 6, locals := 132 }
abbrev y_X2_newPage : MethodName := ⟨"PagingKernelModel", "newPage", "()I"⟩
def T_X2_newPage : am_I := [(0, .iconst 0, 1), (1, .istore_n 1, 1), (2, .aload_n 0, 1), (3, .getfield 34, 3), (6, .iload_n 1, 1), (7, .baload, 1), (8, .ifCond .eq 9, 3), (11, .iinc 1 1, 3), (14, .goto (-12), 3), (17, .aload_n 0, 1), (18, .getfield 34, 3), (21, .iload_n 1, 1), (22, .iconst 1, 1), (23, .bastore, 1), (24, .aload_n 0, 1), (25, .getfield 38, 3), (28, .iload_n 1, 1), (29, .iconst (-1), 1), (30, .iastore, 1), (31, .iconst 0, 1), (32, .istore_n 2, 1), (33, .iload_n 2, 1), (34, .iconst 4, 1), (35, .if_icmp .ge 20, 3), (38, .aload_n 0, 1), (39, .getfield 31, 3), (42, .iconst 4, 1), (43, .iload_n 1, 1), (44, .imul, 1), (45, .iload_n 2, 1), (46, .iadd, 1), (47, .iconst 0, 1), (48, .iastore, 1), (49, .iinc 2 1, 3), (52, .goto (-19), 3), (55, .iload_n 1, 1), (56, .ireturn, 1)]
abbrev rm_X2_newPage : Room := { frames := 0, cells := 0, slots := 0, locals := 0 }
abbrev y_X2_begin : MethodName := ⟨"PagingKernelModel", "begin", "(II)V"⟩
def T_X2_begin : am_I := [(0, .aload_n 0, 1), (1, .getfield 13, 3), (4, .iload_n 1, 1), (5, .iload_n 2, 1), (6, .iastore, 1), (7, .aload_n 0, 1), (8, .getfield 22, 3), (11, .iload_n 1, 1), (12, .iload_n 2, 1), (13, .ifCond .ne 7, 3), (16, .iconst 1, 1), (17, .goto 6, 3), (20, .iconst 2, 1), (21, .iload_n 2, 1), (22, .imul, 1), (23, .iastore, 1), (24, .aload_n 0, 1), (25, .getfield 25, 3), (28, .iload_n 1, 1), (29, .iconst 1, 1), (30, .iastore, 1), (31, .iconst 0, 1), (32, .istore_n 3, 1), (33, .iload_n 3, 1), (34, .bipush 9, 2), (36, .if_icmp .ge 44, 3), (39, .aload_n 0, 1), (40, .getfield 28, 3), (43, .bipush 9, 2), (45, .iload_n 1, 1), (46, .imul, 1), (47, .iload_n 3, 1), (48, .iadd, 1), (49, .iload_n 3, 1), (50, .aload_n 0, 1), (51, .getfield 22, 3), (54, .iload_n 1, 1), (55, .iaload, 1), (56, .if_icmp .lt 9, 3), (59, .iload_n 3, 1), (60, .bipush 8, 2), (62, .if_icmp .ne 10, 3), (65, .aload_n 0, 1), (66, .invokevirtual 72, 3), (69, .goto 4, 3), (72, .iconst (-1), 1), (73, .iastore, 1), (74, .iinc 3 1, 3), (77, .goto (-44), 3), (80, .return_, 1)]
abbrev rm_X2_begin : Room := { frames := 1, cells := 0, slots := 0, locals := 22 }
abbrev y_X2_init : MethodName := ⟨"PagingKernelModel", "<init>", "(II)V"⟩
def T_X2_init : am_I := [(0, .aload_n 0, 1), (1, .invokespecial 1, 3), (4, .aload_n 0, 1), (5, .bipush 6, 2), (7, .newarray .int, 2), (9, .putfield 7, 3), (12, .aload_n 0, 1), (13, .bipush 6, 2), (15, .newarray .int, 2), (17, .putfield 13, 3), (20, .aload_n 0, 1), (21, .bipush 6, 2), (23, .newarray .int, 2), (25, .putfield 16, 3), (28, .aload_n 0, 1), (29, .bipush 6, 2), (31, .newarray .int, 2), (33, .putfield 19, 3), (36, .aload_n 0, 1), (37, .bipush 6, 2), (39, .newarray .int, 2), (41, .putfield 22, 3), (44, .aload_n 0, 1), (45, .bipush 6, 2), (47, .newarray .int, 2), (49, .putfield 25, 3), (52, .aload_n 0, 1), (53, .bipush 54, 2), (55, .newarray .int, 2), (57, .putfield 28, 3), (60, .aload_n 0, 1), (61, .sipush 256, 3), (64, .newarray .int, 2), (66, .putfield 31, 3), (69, .aload_n 0, 1), (70, .bipush 64, 2), (72, .newarray .boolean, 2), (74, .putfield 34, 3), (77, .aload_n 0, 1), (78, .bipush 70, 2), (80, .newarray .int, 2), (82, .putfield 38, 3), (85, .aload_n 0, 1), (86, .bipush 10, 2), (88, .newarray .int, 2), (90, .putfield 41, 3), (93, .aload_n 0, 1), (94, .bipush 10, 2), (96, .newarray .boolean, 2), (98, .putfield 44, 3), (101, .aload_n 0, 1), (102, .bipush 20, 2), (104, .newarray .boolean, 2), (106, .putfield 47, 3), (109, .aload_n 0, 1), (110, .iload_n 1, 1), (111, .iconst 2, 1), (112, .if_icmp .ge 7, 3), (115, .iconst 2, 1), (116, .goto 15, 3), (119, .iload_n 1, 1), (120, .bipush 10, 2), (122, .if_icmp .le 8, 3), (125, .bipush 10, 2), (127, .goto 4, 3), (130, .iload_n 1, 1), (131, .putfield 50, 3), (134, .aload_n 0, 1), (135, .iload_n 2, 1), (136, .ifCond .ge 7, 3), (139, .iconst 0, 1), (140, .goto 15, 3), (143, .iload_n 2, 1), (144, .bipush 20, 2), (146, .if_icmp .le 8, 3), (149, .bipush 20, 2), (151, .goto 4, 3), (154, .iload_n 2, 1), (155, .putfield 54, 3), (158, .iconst 0, 1), (159, .istore_n 3, 1), (160, .iload_n 3, 1), (161, .bipush 70, 2), (163, .if_icmp .ge 16, 3), (166, .aload_n 0, 1), (167, .getfield 38, 3), (170, .iload_n 3, 1), (171, .iconst (-1), 1), (172, .iastore, 1), (173, .iinc 3 1, 3), (176, .goto (-16), 3), (179, .iconst 0, 1), (180, .istore_n 3, 1), (181, .iload_n 3, 1), (182, .bipush 10, 2), (184, .if_icmp .ge 16, 3), (187, .aload_n 0, 1), (188, .getfield 41, 3), (191, .iload_n 3, 1), (192, .iconst (-1), 1), (193, .iastore, 1), (194, .iinc 3 1, 3), (197, .goto (-16), 3), (200, .iconst 0, 1), (201, .istore_n 3, 1), (202, .iload_n 3, 1), (203, .bipush 54, 2), (205, .if_icmp .ge 16, 3), (208, .aload_n 0, 1), (209, .getfield 28, 3), (212, .iload_n 3, 1), (213, .iconst (-1), 1), (214, .iastore, 1), (215, .iinc 3 1, 3), (218, .goto (-16), 3), (221, .aload_n 0, 1), (222, .getfield 7, 3), (225, .iconst 0, 1), (226, .iconst 1, 1), (227, .iastore, 1), (228, .aload_n 0, 1), (229, .getfield 16, 3), (232, .iconst 0, 1), (233, .iconst (-1), 1), (234, .iastore, 1), (235, .aload_n 0, 1), (236, .iconst 0, 1), (237, .iconst 0, 1), (238, .invokevirtual 57, 3), (241, .return_, 1)]
abbrev rm_X2_init : Room := { frames := 2, cells := 13, slots := 3900, locals := 45 }
abbrev y_X2_thrown : MethodName := ⟨"PagingKernelModel", "thrown", "()I"⟩
def T_X2_thrown : am_I := [(0, .aload_n 0, 1), (1, .getfield 61, 3), (4, .ireturn, 1)]
abbrev rm_X2_thrown : Room := { frames := 0, cells := 0, slots := 0, locals := 0 }
abbrev y_X2_out : MethodName := ⟨"PagingKernelModel", "out", "(II)Z"⟩
def T_X2_out : am_I := [(0, .iload_n 1, 1), (1, .ifCond .lt 8, 3), (4, .iload_n 1, 1), (5, .iload_n 2, 1), (6, .if_icmp .lt 7, 3), (9, .iconst 1, 1), (10, .goto 4, 3), (13, .iconst 0, 1), (14, .ireturn, 1)]
abbrev rm_X2_out : Room := { frames := 0, cells := 0, slots := 0, locals := 0 }
abbrev y_X2_fail : MethodName := ⟨"PagingKernelModel", "fail", "(I)I"⟩
def T_X2_fail : am_I := [(0, .aload_n 0, 1), (1, .iload_n 1, 1), (2, .putfield 61, 3), (5, .iconst 0, 1), (6, .ireturn, 1)]
abbrev rm_X2_fail : Room := { frames := 0, cells := 0, slots := 0, locals := 0 }
abbrev y_X2_notRunning : MethodName := ⟨"PagingKernelModel", "notRunning", "(I)Z"⟩
def T_X2_notRunning : am_I := [(0, .aload_n 0, 1), (1, .getfield 7, 3), (4, .iload_n 1, 1), (5, .iaload, 1), (6, .iconst 1, 1), (7, .if_icmp .eq 7, 3), (10, .iconst 1, 1), (11, .goto 4, 3), (14, .iconst 0, 1), (15, .ireturn, 1)]
abbrev rm_X2_notRunning : Room := { frames := 0, cells := 0, slots := 0, locals := 0 }
abbrev y_X2_fork : MethodName := ⟨"PagingKernelModel", "fork", "(I)I"⟩
def T_X2_fork : am_I := [(0, .aload_n 0, 1), (1, .iconst 0, 1), (2, .putfield 61, 3), (5, .aload_n 0, 1), (6, .iload_n 1, 1), (7, .bipush 6, 2), (9, .invokevirtual 105, 3), (12, .ifCond .eq 9, 3), (15, .aload_n 0, 1), (16, .iconst 1, 1), (17, .invokevirtual 109, 3), (20, .ireturn, 1), (21, .aload_n 0, 1), (22, .iload_n 1, 1), (23, .invokevirtual 112, 3), (26, .ifCond .eq 9, 3), (29, .aload_n 0, 1), (30, .iconst 2, 1), (31, .invokevirtual 109, 3), (34, .ireturn, 1), (35, .iconst 0, 1), (36, .istore_n 2, 1), (37, .iload_n 2, 1), (38, .bipush 6, 2), (40, .if_icmp .ge 18, 3), (43, .aload_n 0, 1), (44, .getfield 7, 3), (47, .iload_n 2, 1), (48, .iaload, 1), (49, .ifCond .eq 9, 3), (52, .iinc 2 1, 3), (55, .goto (-18), 3), (58, .iload_n 2, 1), (59, .bipush 6, 2), (61, .if_icmp .ne 9, 3), (64, .aload_n 0, 1), (65, .iconst 3, 1), (66, .invokevirtual 109, 3), (69, .ireturn, 1), (70, .aload_n 0, 1), (71, .getfield 7, 3), (74, .iload_n 2, 1), (75, .iconst 1, 1), (76, .iastore, 1), (77, .aload_n 0, 1), (78, .getfield 16, 3), (81, .iload_n 2, 1), (82, .iload_n 1, 1), (83, .iastore, 1), (84, .aload_n 0, 1), (85, .getfield 13, 3), (88, .iload_n 2, 1), (89, .aload_n 0, 1), (90, .getfield 13, 3), (93, .iload_n 1, 1), (94, .iaload, 1), (95, .iastore, 1), (96, .aload_n 0, 1), (97, .getfield 22, 3), (100, .iload_n 2, 1), (101, .aload_n 0, 1), (102, .getfield 22, 3), (105, .iload_n 1, 1), (106, .iaload, 1), (107, .iastore, 1), (108, .aload_n 0, 1), (109, .getfield 25, 3), (112, .iload_n 2, 1), (113, .aload_n 0, 1), (114, .getfield 25, 3), (117, .iload_n 1, 1), (118, .iaload, 1), (119, .iastore, 1), (120, .iconst 0, 1), (121, .istore_n 3, 1), (122, .iload_n 3, 1), (123, .bipush 9, 2), (125, .if_icmp .ge 31, 3), (128, .aload_n 0, 1), (129, .getfield 28, 3), (132, .bipush 9, 2), (134, .iload_n 2, 1), (135, .imul, 1), (136, .iload_n 3, 1), (137, .iadd, 1), (138, .aload_n 0, 1), (139, .getfield 28, 3), (142, .bipush 9, 2), (144, .iload_n 1, 1), (145, .imul, 1), (146, .iload_n 3, 1), (147, .iadd, 1), (148, .iaload, 1), (149, .iastore, 1), (150, .iinc 3 1, 3), (153, .goto (-31), 3), (156, .iload_n 2, 1), (157, .ireturn, 1)]
abbrev rm_X2_fork : Room := { frames := 1, cells := 0, slots := 0, locals := 22 }
abbrev y_X2_drop : MethodName := ⟨"PagingKernelModel", "drop", "(I)V"⟩
def T_X2_drop : am_I := [(0, .iconst 0, 1), (1, .istore_n 2, 1), (2, .iload_n 2, 1), (3, .bipush 9, 2), (5, .if_icmp .ge 21, 3), (8, .aload_n 0, 1), (9, .getfield 28, 3), (12, .bipush 9, 2), (14, .iload_n 1, 1), (15, .imul, 1), (16, .iload_n 2, 1), (17, .iadd, 1), (18, .iconst (-1), 1), (19, .iastore, 1), (20, .iinc 2 1, 3), (23, .goto (-21), 3), (26, .return_, 1)]
abbrev rm_X2_drop : Room := { frames := 0, cells := 0, slots := 0, locals := 0 }
abbrev y_X2_owners : MethodName := ⟨"PagingKernelModel", "owners", "(I)I"⟩
def T_X2_owners : am_I := [(0, .iconst 0, 1), (1, .istore_n 2, 1), (2, .iload_n 1, 1), (3, .bipush 64, 2), (5, .if_icmp .lt 52, 3), (8, .iconst 0, 1), (9, .istore_n 3, 1), (10, .iload_n 3, 1), (11, .bipush 6, 2), (13, .if_icmp .ge 42, 3), (16, .iload_n 2, 1), (17, .aload_n 0, 1), (18, .getfield 7, 3), (21, .iload_n 3, 1), (22, .iaload, 1), (23, .iconst 1, 1), (24, .if_icmp .ne 22, 3), (27, .aload_n 0, 1), (28, .getfield 13, 3), (31, .iload_n 3, 1), (32, .iaload, 1), (33, .iload_n 1, 1), (34, .bipush 64, 2), (36, .isub, 1), (37, .iconst 2, 1), (38, .idiv, 1), (39, .if_icmp .ne 7, 3), (42, .iconst 1, 1), (43, .goto 4, 3), (46, .iconst 0, 1), (47, .iadd, 1), (48, .istore_n 2, 1), (49, .iinc 3 1, 3), (52, .goto (-42), 3), (55, .iload_n 2, 1), (56, .ireturn, 1), (57, .iconst 0, 1), (58, .istore_n 3, 1), (59, .iload_n 3, 1), (60, .bipush 54, 2), (62, .if_icmp .ge 27, 3), (65, .iload_n 2, 1), (66, .aload_n 0, 1), (67, .getfield 28, 3), (70, .iload_n 3, 1), (71, .iaload, 1), (72, .iload_n 1, 1), (73, .if_icmp .ne 7, 3), (76, .iconst 1, 1), (77, .goto 4, 3), (80, .iconst 0, 1), (81, .iadd, 1), (82, .istore_n 2, 1), (83, .iinc 3 1, 3), (86, .goto (-27), 3), (89, .iload_n 2, 1), (90, .ireturn, 1)]
abbrev rm_X2_owners : Room := { frames := 0, cells := 0, slots := 0, locals := 0 }
abbrev y_X2_leave : MethodName := ⟨"PagingKernelModel", "leave", "(I)V"⟩
def T_X2_leave : am_I := [(0, .aload_n 0, 1), (1, .getfield 38, 3), (4, .iload_n 1, 1), (5, .iaload, 1), (6, .bipush 100, 2), (8, .if_icmp .lt 21, 3), (11, .aload_n 0, 1), (12, .getfield 47, 3), (15, .aload_n 0, 1), (16, .getfield 38, 3), (19, .iload_n 1, 1), (20, .iaload, 1), (21, .bipush 100, 2), (23, .isub, 1), (24, .iconst 0, 1), (25, .bastore, 1), (26, .goto 24, 3), (29, .aload_n 0, 1), (30, .getfield 38, 3), (33, .iload_n 1, 1), (34, .iaload, 1), (35, .ifCond .lt 15, 3), (38, .aload_n 0, 1), (39, .getfield 41, 3), (42, .aload_n 0, 1), (43, .getfield 38, 3), (46, .iload_n 1, 1), (47, .iaload, 1), (48, .iconst (-1), 1), (49, .iastore, 1), (50, .aload_n 0, 1), (51, .getfield 38, 3), (54, .iload_n 1, 1), (55, .iconst (-1), 1), (56, .iastore, 1), (57, .iload_n 1, 1), (58, .bipush 64, 2), (60, .if_icmp .ge 10, 3), (63, .aload_n 0, 1), (64, .getfield 34, 3), (67, .iload_n 1, 1), (68, .iconst 0, 1), (69, .bastore, 1), (70, .return_, 1)]
abbrev rm_X2_leave : Room := { frames := 0, cells := 0, slots := 0, locals := 0 }
abbrev y_X2_clean : MethodName := ⟨"PagingKernelModel", "clean", "()V"⟩
def T_X2_clean : am_I := [(0, .iconst 0, 1), (1, .istore_n 1, 1), (2, .iload_n 1, 1), (3, .bipush 70, 2), (5, .if_icmp .ge 37, 3), (8, .iload_n 1, 1), (9, .bipush 64, 2), (11, .if_icmp .ge 12, 3), (14, .aload_n 0, 1), (15, .getfield 34, 3), (18, .iload_n 1, 1), (19, .baload, 1), (20, .ifCond .eq 16, 3), (23, .aload_n 0, 1), (24, .iload_n 1, 1), (25, .invokevirtual 64, 3), (28, .ifCond .ne 8, 3), (31, .aload_n 0, 1), (32, .iload_n 1, 1), (33, .invokevirtual 68, 3), (36, .iinc 1 1, 3), (39, .goto (-37), 3), (42, .return_, 1)]
abbrev rm_X2_clean : Room := { frames := 1, cells := 0, slots := 0, locals := 23 }
abbrev y_X2_exec : MethodName := ⟨"PagingKernelModel", "exec", "(II)I"⟩
def T_X2_exec : am_I := [(0, .aload_n 0, 1), (1, .iconst 0, 1), (2, .putfield 61, 3), (5, .aload_n 0, 1), (6, .iload_n 1, 1), (7, .bipush 6, 2), (9, .invokevirtual 105, 3), (12, .ifCond .ne 12, 3), (15, .aload_n 0, 1), (16, .iload_n 2, 1), (17, .iconst 3, 1), (18, .invokevirtual 105, 3), (21, .ifCond .eq 9, 3), (24, .aload_n 0, 1), (25, .iconst 1, 1), (26, .invokevirtual 109, 3), (29, .ireturn, 1), (30, .aload_n 0, 1), (31, .iload_n 1, 1), (32, .invokevirtual 112, 3), (35, .ifCond .eq 9, 3), (38, .aload_n 0, 1), (39, .iconst 2, 1), (40, .invokevirtual 109, 3), (43, .ireturn, 1), (44, .aload_n 0, 1), (45, .iload_n 1, 1), (46, .invokevirtual 115, 3), (49, .aload_n 0, 1), (50, .getfield 13, 3), (53, .iload_n 1, 1), (54, .iload_n 2, 1), (55, .iastore, 1), (56, .aload_n 0, 1), (57, .invokevirtual 118, 3), (60, .aload_n 0, 1), (61, .iload_n 1, 1), (62, .iload_n 2, 1), (63, .invokevirtual 57, 3), (66, .iconst 4, 1), (67, .aload_n 0, 1), (68, .getfield 22, 3), (71, .iload_n 1, 1), (72, .iaload, 1), (73, .imul, 1), (74, .ireturn, 1)]
abbrev rm_X2_exec : Room := { frames := 2, cells := 0, slots := 0, locals := 45 }
abbrev y_X2_exit : MethodName := ⟨"PagingKernelModel", "exit", "(II)I"⟩
def T_X2_exit : am_I := [(0, .aload_n 0, 1), (1, .iconst 0, 1), (2, .putfield 61, 3), (5, .iload_n 1, 1), (6, .iconst 1, 1), (7, .if_icmp .lt 19, 3), (10, .iload_n 1, 1), (11, .iconst 5, 1), (12, .if_icmp .gt 14, 3), (15, .aload_n 0, 1), (16, .iload_n 2, 1), (17, .sipush 256, 3), (20, .invokevirtual 105, 3), (23, .ifCond .eq 9, 3), (26, .aload_n 0, 1), (27, .iconst 1, 1), (28, .invokevirtual 109, 3), (31, .ireturn, 1), (32, .aload_n 0, 1), (33, .iload_n 1, 1), (34, .invokevirtual 112, 3), (37, .ifCond .eq 9, 3), (40, .aload_n 0, 1), (41, .iconst 2, 1), (42, .invokevirtual 109, 3), (45, .ireturn, 1), (46, .aload_n 0, 1), (47, .getfield 7, 3), (50, .iload_n 1, 1), (51, .iconst 2, 1), (52, .iastore, 1), (53, .aload_n 0, 1), (54, .getfield 19, 3), (57, .iload_n 1, 1), (58, .iload_n 2, 1), (59, .iastore, 1), (60, .aload_n 0, 1), (61, .iload_n 1, 1), (62, .invokevirtual 115, 3), (65, .aload_n 0, 1), (66, .invokevirtual 118, 3), (69, .iconst 0, 1), (70, .istore_n 3, 1), (71, .iconst 1, 1), (72, .istore 4, 2), (74, .iload 4, 2), (76, .bipush 6, 2), (78, .if_icmp .ge 41, 3), (81, .aload_n 0, 1), (82, .getfield 7, 3), (85, .iload 4, 2), (87, .iaload, 1), (88, .ifCond .eq 25, 3), (91, .aload_n 0, 1), (92, .getfield 16, 3), (95, .iload 4, 2), (97, .iaload, 1), (98, .iload_n 1, 1), (99, .if_icmp .ne 14, 3), (102, .aload_n 0, 1), (103, .getfield 16, 3), (106, .iload 4, 2), (108, .iconst 0, 1), (109, .iastore, 1), (110, .iinc 3 1, 3), (113, .iinc 4 1, 3), (116, .goto (-42), 3), (119, .iload_n 3, 1), (120, .ireturn, 1)]
abbrev rm_X2_exit : Room := { frames := 2, cells := 0, slots := 0, locals := 44 }
abbrev y_X2_await : MethodName := ⟨"PagingKernelModel", "await", "(I)I"⟩
def T_X2_await : am_I := [(0, .aload_n 0, 1), (1, .iconst 0, 1), (2, .putfield 61, 3), (5, .aload_n 0, 1), (6, .iload_n 1, 1), (7, .bipush 6, 2), (9, .invokevirtual 105, 3), (12, .ifCond .eq 9, 3), (15, .aload_n 0, 1), (16, .iconst 1, 1), (17, .invokevirtual 109, 3), (20, .ireturn, 1), (21, .aload_n 0, 1), (22, .iload_n 1, 1), (23, .invokevirtual 112, 3), (26, .ifCond .eq 9, 3), (29, .aload_n 0, 1), (30, .iconst 2, 1), (31, .invokevirtual 109, 3), (34, .ireturn, 1), (35, .iconst 0, 1), (36, .istore_n 2, 1), (37, .iconst (-1), 1), (38, .istore_n 3, 1), (39, .iconst 1, 1), (40, .istore 4, 2), (42, .iload 4, 2), (44, .bipush 6, 2), (46, .if_icmp .ge 54, 3), (49, .aload_n 0, 1), (50, .getfield 7, 3), (53, .iload 4, 2), (55, .iaload, 1), (56, .ifCond .eq 38, 3), (59, .aload_n 0, 1), (60, .getfield 16, 3), (63, .iload 4, 2), (65, .iaload, 1), (66, .iload_n 1, 1), (67, .if_icmp .eq 6, 3), (70, .goto 24, 3), (73, .iinc 2 1, 3), (76, .aload_n 0, 1), (77, .getfield 7, 3), (80, .iload 4, 2), (82, .iaload, 1), (83, .iconst 2, 1), (84, .if_icmp .ne 10, 3), (87, .iload_n 3, 1), (88, .ifCond .ge 6, 3), (91, .iload 4, 2), (93, .istore_n 3, 1), (94, .iinc 4 1, 3), (97, .goto (-55), 3), (100, .iload_n 2, 1), (101, .ifCond .ne 9, 3), (104, .aload_n 0, 1), (105, .iconst 3, 1), (106, .invokevirtual 109, 3), (109, .ireturn, 1), (110, .iload_n 3, 1), (111, .ifCond .ge 9, 3), (114, .aload_n 0, 1), (115, .iconst 4, 1), (116, .invokevirtual 109, 3), (119, .ireturn, 1), (120, .aload_n 0, 1), (121, .getfield 7, 3), (124, .iload_n 3, 1), (125, .iconst 0, 1), (126, .iastore, 1), (127, .sipush 256, 3), (130, .iload_n 3, 1), (131, .imul, 1), (132, .aload_n 0, 1), (133, .getfield 19, 3), (136, .iload_n 3, 1), (137, .iaload, 1), (138, .iadd, 1), (139, .ireturn, 1)]
abbrev rm_X2_await : Room := { frames := 1, cells := 0, slots := 0, locals := 22 }
abbrev y_X2_grow : MethodName := ⟨"PagingKernelModel", "grow", "(II)I"⟩
def T_X2_grow : am_I := [(0, .aload_n 0, 1), (1, .iconst 0, 1), (2, .putfield 61, 3), (5, .aload_n 0, 1), (6, .iload_n 1, 1), (7, .bipush 6, 2), (9, .invokevirtual 105, 3), (12, .ifCond .ne 15, 3), (15, .iload_n 2, 1), (16, .bipush (-6), 2), (18, .if_icmp .lt 9, 3), (21, .iload_n 2, 1), (22, .bipush 6, 2), (24, .if_icmp .le 9, 3), (27, .aload_n 0, 1), (28, .iconst 1, 1), (29, .invokevirtual 109, 3), (32, .ireturn, 1), (33, .aload_n 0, 1), (34, .iload_n 1, 1), (35, .invokevirtual 112, 3), (38, .ifCond .eq 9, 3), (41, .aload_n 0, 1), (42, .iconst 2, 1), (43, .invokevirtual 109, 3), (46, .ireturn, 1), (47, .aload_n 0, 1), (48, .getfield 22, 3), (51, .iload_n 1, 1), (52, .iaload, 1), (53, .iload_n 2, 1), (54, .iadd, 1), (55, .istore_n 3, 1), (56, .iload_n 3, 1), (57, .ifCond .lt 9, 3), (60, .iload_n 3, 1), (61, .bipush 6, 2), (63, .if_icmp .le 9, 3), (66, .aload_n 0, 1), (67, .iconst 3, 1), (68, .invokevirtual 109, 3), (71, .ireturn, 1), (72, .iconst 0, 1), (73, .istore 4, 2), (75, .iload 4, 2), (77, .bipush 6, 2), (79, .if_icmp .ge 58, 3), (82, .iload 4, 2), (84, .iload_n 3, 1), (85, .if_icmp .lt 19, 3), (88, .aload_n 0, 1), (89, .getfield 28, 3), (92, .bipush 9, 2), (94, .iload_n 1, 1), (95, .imul, 1), (96, .iload 4, 2), (98, .iadd, 1), (99, .iconst (-1), 1), (100, .iastore, 1), (101, .goto 30, 3), (104, .iload 4, 2), (106, .aload_n 0, 1), (107, .getfield 22, 3), (110, .iload_n 1, 1), (111, .iaload, 1), (112, .if_icmp .lt 19, 3), (115, .aload_n 0, 1), (116, .getfield 28, 3), (119, .bipush 9, 2), (121, .iload_n 1, 1), (122, .imul, 1), (123, .iload 4, 2), (125, .iadd, 1), (126, .aload_n 0, 1), (127, .invokevirtual 72, 3), (130, .iastore, 1), (131, .iinc 4 1, 3), (134, .goto (-59), 3), (137, .aload_n 0, 1), (138, .getfield 22, 3), (141, .iload_n 1, 1), (142, .iload_n 3, 1), (143, .iastore, 1), (144, .aload_n 0, 1), (145, .invokevirtual 118, 3), (148, .iload_n 3, 1), (149, .ireturn, 1)]
abbrev rm_X2_grow : Room := { frames := 2, cells := 0, slots := 0, locals := 44 }
abbrev y_X2_growStack : MethodName := ⟨"PagingKernelModel", "growStack", "(II)V"⟩
def T_X2_growStack : am_I := [(0, .iload_n 2, 1), (1, .bipush 32, 2), (3, .if_icmp .ge 4, 3), (6, .return_, 1), (7, .iconst 2, 1), (8, .istore_n 3, 1), (9, .iload_n 3, 1), (10, .iload_n 2, 1), (11, .bipush 32, 2), (13, .isub, 1), (14, .iconst 4, 1), (15, .idiv, 1), (16, .if_icmp .lt 54, 3), (19, .aload_n 0, 1), (20, .getfield 28, 3), (23, .bipush 9, 2), (25, .iload_n 1, 1), (26, .imul, 1), (27, .bipush 6, 2), (29, .iadd, 1), (30, .iload_n 3, 1), (31, .iadd, 1), (32, .iaload, 1), (33, .ifCond .ge 31, 3), (36, .aload_n 0, 1), (37, .getfield 28, 3), (40, .bipush 9, 2), (42, .iload_n 1, 1), (43, .imul, 1), (44, .bipush 6, 2), (46, .iadd, 1), (47, .iload_n 3, 1), (48, .iadd, 1), (49, .aload_n 0, 1), (50, .invokevirtual 72, 3), (53, .iastore, 1), (54, .aload_n 0, 1), (55, .getfield 25, 3), (58, .iload_n 1, 1), (59, .dup2, 1), (60, .iaload, 1), (61, .iconst 1, 1), (62, .iadd, 1), (63, .iastore, 1), (64, .iinc 3 (-1), 3), (67, .goto (-58), 3), (70, .return_, 1)]
abbrev rm_X2_growStack : Room := { frames := 1, cells := 0, slots := 0, locals := 22 }
abbrev y_X2_pageOf : MethodName := ⟨"PagingKernelModel", "pageOf", "(II)I"⟩
def T_X2_pageOf : am_I := [(0, .iload_n 2, 1), (1, .bipush 8, 2), (3, .if_icmp .ge 19, 3), (6, .bipush 64, 2), (8, .iconst 2, 1), (9, .aload_n 0, 1), (10, .getfield 13, 3), (13, .iload_n 1, 1), (14, .iaload, 1), (15, .imul, 1), (16, .iadd, 1), (17, .iload_n 2, 1), (18, .iconst 4, 1), (19, .idiv, 1), (20, .iadd, 1), (21, .ireturn, 1), (22, .aload_n 0, 1), (23, .getfield 28, 3), (26, .bipush 9, 2), (28, .iload_n 1, 1), (29, .imul, 1), (30, .iload_n 2, 1), (31, .bipush 32, 2), (33, .if_icmp .ge 12, 3), (36, .iload_n 2, 1), (37, .bipush 8, 2), (39, .isub, 1), (40, .iconst 4, 1), (41, .idiv, 1), (42, .goto 12, 3), (45, .bipush 6, 2), (47, .iload_n 2, 1), (48, .bipush 32, 2), (50, .isub, 1), (51, .iconst 4, 1), (52, .idiv, 1), (53, .iadd, 1), (54, .iadd, 1), (55, .iaload, 1), (56, .ireturn, 1)]
abbrev rm_X2_pageOf : Room := { frames := 0, cells := 0, slots := 0, locals := 0 }
abbrev y_X2_freeSlot : MethodName := ⟨"PagingKernelModel", "freeSlot", "()I"⟩
def T_X2_freeSlot : am_I := [(0, .iconst 0, 1), (1, .istore_n 1, 1), (2, .iload_n 1, 1), (3, .aload_n 0, 1), (4, .getfield 54, 3), (7, .if_icmp .ge 20, 3), (10, .aload_n 0, 1), (11, .getfield 47, 3), (14, .iload_n 1, 1), (15, .baload, 1), (16, .ifCond .ne 5, 3), (19, .iload_n 1, 1), (20, .ireturn, 1), (21, .iinc 1 1, 3), (24, .goto (-22), 3), (27, .iconst (-1), 1), (28, .ireturn, 1)]
abbrev rm_X2_freeSlot : Room := { frames := 0, cells := 0, slots := 0, locals := 0 }
abbrev y_X2_canGo : MethodName := ⟨"PagingKernelModel", "canGo", "(I)Z"⟩
def T_X2_canGo : am_I := [(0, .iload_n 1, 1), (1, .bipush 64, 2), (3, .if_icmp .ge 10, 3), (6, .aload_n 0, 1), (7, .invokevirtual 76, 3), (10, .ifCond .lt 7, 3), (13, .iconst 1, 1), (14, .goto 4, 3), (17, .iconst 0, 1), (18, .ireturn, 1)]
abbrev rm_X2_canGo : Room := { frames := 1, cells := 0, slots := 0, locals := 21 }
abbrev y_X2_sendOut : MethodName := ⟨"PagingKernelModel", "sendOut", "(I)V"⟩
def T_X2_sendOut : am_I := [(0, .aload_n 0, 1), (1, .getfield 41, 3), (4, .aload_n 0, 1), (5, .getfield 38, 3), (8, .iload_n 1, 1), (9, .iaload, 1), (10, .iconst (-1), 1), (11, .iastore, 1), (12, .aload_n 0, 1), (13, .dup, 1), (14, .getfield 79, 3), (17, .iconst 1, 1), (18, .iadd, 1), (19, .putfield 79, 3), (22, .iload_n 1, 1), (23, .bipush 64, 2), (25, .if_icmp .lt 13, 3), (28, .aload_n 0, 1), (29, .getfield 38, 3), (32, .iload_n 1, 1), (33, .iconst (-1), 1), (34, .iastore, 1), (35, .goto 25, 3), (38, .aload_n 0, 1), (39, .invokevirtual 76, 3), (42, .istore_n 2, 1), (43, .aload_n 0, 1), (44, .getfield 47, 3), (47, .iload_n 2, 1), (48, .iconst 1, 1), (49, .bastore, 1), (50, .aload_n 0, 1), (51, .getfield 38, 3), (54, .iload_n 1, 1), (55, .bipush 100, 2), (57, .iload_n 2, 1), (58, .iadd, 1), (59, .iastore, 1), (60, .return_, 1)]
abbrev rm_X2_sendOut : Room := { frames := 1, cells := 0, slots := 0, locals := 21 }
abbrev y_X2_look : MethodName := ⟨"PagingKernelModel", "look", "()Z"⟩
def T_X2_look : am_I := [(0, .aload_n 0, 1), (1, .getfield 82, 3), (4, .istore_n 1, 1), (5, .aload_n 0, 1), (6, .aload_n 0, 1), (7, .getfield 82, 3), (10, .iconst 1, 1), (11, .iadd, 1), (12, .aload_n 0, 1), (13, .getfield 50, 3), (16, .irem, 1), (17, .putfield 82, 3), (20, .aload_n 0, 1), (21, .getfield 41, 3), (24, .iload_n 1, 1), (25, .iaload, 1), (26, .ifCond .ge 5, 3), (29, .iconst 0, 1), (30, .ireturn, 1), (31, .aload_n 0, 1), (32, .getfield 44, 3), (35, .iload_n 1, 1), (36, .baload, 1), (37, .ifCond .eq 12, 3), (40, .aload_n 0, 1), (41, .getfield 44, 3), (44, .iload_n 1, 1), (45, .iconst 0, 1), (46, .bastore, 1), (47, .iconst 0, 1), (48, .ireturn, 1), (49, .aload_n 0, 1), (50, .aload_n 0, 1), (51, .getfield 41, 3), (54, .iload_n 1, 1), (55, .iaload, 1), (56, .invokevirtual 85, 3), (59, .ifCond .ne 5, 3), (62, .iconst 0, 1), (63, .ireturn, 1), (64, .aload_n 0, 1), (65, .aload_n 0, 1), (66, .getfield 41, 3), (69, .iload_n 1, 1), (70, .iaload, 1), (71, .invokevirtual 89, 3), (74, .iconst 1, 1), (75, .ireturn, 1)]
abbrev rm_X2_look : Room := { frames := 2, cells := 0, slots := 0, locals := 43 }
abbrev y_X2_getFrame : MethodName := ⟨"PagingKernelModel", "getFrame", "()I"⟩
def T_X2_getFrame : am_I := [(0, .iconst 0, 1), (1, .istore_n 1, 1), (2, .iload_n 1, 1), (3, .aload_n 0, 1), (4, .getfield 50, 3), (7, .if_icmp .ge 20, 3), (10, .aload_n 0, 1), (11, .getfield 41, 3), (14, .iload_n 1, 1), (15, .iaload, 1), (16, .ifCond .ge 5, 3), (19, .iload_n 1, 1), (20, .ireturn, 1), (21, .iinc 1 1, 3), (24, .goto (-22), 3), (27, .iconst 0, 1), (28, .istore_n 1, 1), (29, .iload_n 1, 1), (30, .iconst 2, 1), (31, .aload_n 0, 1), (32, .getfield 50, 3), (35, .imul, 1), (36, .if_icmp .ge 23, 3), (39, .aload_n 0, 1), (40, .getfield 82, 3), (43, .istore_n 2, 1), (44, .aload_n 0, 1), (45, .invokevirtual 92, 3), (48, .ifCond .eq 5, 3), (51, .iload_n 2, 1), (52, .ireturn, 1), (53, .iinc 1 1, 3), (56, .goto (-27), 3), (59, .iconst (-1), 1), (60, .ireturn, 1)]
abbrev rm_X2_getFrame : Room := { frames := 3, cells := 0, slots := 0, locals := 64 }
abbrev y_X2_putIn : MethodName := ⟨"PagingKernelModel", "putIn", "(II)V"⟩
def T_X2_putIn : am_I := [(0, .aload_n 0, 1), (1, .getfield 38, 3), (4, .iload_n 1, 1), (5, .iload_n 2, 1), (6, .iastore, 1), (7, .aload_n 0, 1), (8, .getfield 41, 3), (11, .iload_n 2, 1), (12, .iload_n 1, 1), (13, .iastore, 1), (14, .aload_n 0, 1), (15, .getfield 44, 3), (18, .iload_n 2, 1), (19, .iconst 1, 1), (20, .bastore, 1), (21, .return_, 1)]
abbrev rm_X2_putIn : Room := { frames := 0, cells := 0, slots := 0, locals := 0 }
abbrev y_X2_touch : MethodName := ⟨"PagingKernelModel", "touch", "(I)Z"⟩
def T_X2_touch : am_I := [(0, .aload_n 0, 1), (1, .getfield 38, 3), (4, .iload_n 1, 1), (5, .iaload, 1), (6, .ifCond .lt 14, 3), (9, .aload_n 0, 1), (10, .getfield 38, 3), (13, .iload_n 1, 1), (14, .iaload, 1), (15, .bipush 100, 2), (17, .if_icmp .lt 56, 3), (20, .aload_n 0, 1), (21, .invokevirtual 96, 3), (24, .istore_n 2, 1), (25, .iload_n 2, 1), (26, .ifCond .ge 5, 3), (29, .iconst 0, 1), (30, .ireturn, 1), (31, .aload_n 0, 1), (32, .getfield 38, 3), (35, .iload_n 1, 1), (36, .iaload, 1), (37, .bipush 100, 2), (39, .if_icmp .lt 18, 3), (42, .aload_n 0, 1), (43, .getfield 47, 3), (46, .aload_n 0, 1), (47, .getfield 38, 3), (50, .iload_n 1, 1), (51, .iaload, 1), (52, .bipush 100, 2), (54, .isub, 1), (55, .iconst 0, 1), (56, .bastore, 1), (57, .aload_n 0, 1), (58, .iload_n 1, 1), (59, .iload_n 2, 1), (60, .invokevirtual 99, 3), (63, .aload_n 0, 1), (64, .dup, 1), (65, .getfield 102, 3), (68, .iconst 1, 1), (69, .iadd, 1), (70, .putfield 102, 3), (73, .aload_n 0, 1), (74, .getfield 44, 3), (77, .aload_n 0, 1), (78, .getfield 38, 3), (81, .iload_n 1, 1), (82, .iaload, 1), (83, .iconst 1, 1), (84, .bastore, 1), (85, .iconst 1, 1), (86, .ireturn, 1)]
abbrev rm_X2_touch : Room := { frames := 4, cells := 0, slots := 0, locals := 86 }
abbrev y_X2_wordOf : MethodName := ⟨"PagingKernelModel", "wordOf", "(II)I"⟩
def T_X2_wordOf : am_I := [(0, .iload_n 1, 1), (1, .bipush 64, 2), (3, .if_icmp .lt 26, 3), (6, .bipush 100, 2), (8, .iload_n 1, 1), (9, .bipush 64, 2), (11, .isub, 1), (12, .iconst 2, 1), (13, .idiv, 1), (14, .imul, 1), (15, .bipush 10, 2), (17, .iload_n 1, 1), (18, .iconst 2, 1), (19, .irem, 1), (20, .imul, 1), (21, .iadd, 1), (22, .iload_n 2, 1), (23, .iconst 4, 1), (24, .irem, 1), (25, .iadd, 1), (26, .goto 15, 3), (29, .aload_n 0, 1), (30, .getfield 31, 3), (33, .iconst 4, 1), (34, .iload_n 1, 1), (35, .imul, 1), (36, .iload_n 2, 1), (37, .iconst 4, 1), (38, .irem, 1), (39, .iadd, 1), (40, .iaload, 1), (41, .ireturn, 1)]
abbrev rm_X2_wordOf : Room := { frames := 0, cells := 0, slots := 0, locals := 0 }
abbrev y_X2_read : MethodName := ⟨"PagingKernelModel", "read", "(II)I"⟩
def T_X2_read : am_I := [(0, .aload_n 0, 1), (1, .iconst 0, 1), (2, .putfield 61, 3), (5, .aload_n 0, 1), (6, .iload_n 1, 1), (7, .bipush 6, 2), (9, .invokevirtual 105, 3), (12, .ifCond .ne 13, 3), (15, .aload_n 0, 1), (16, .iload_n 2, 1), (17, .bipush 44, 2), (19, .invokevirtual 105, 3), (22, .ifCond .eq 9, 3), (25, .aload_n 0, 1), (26, .iconst 1, 1), (27, .invokevirtual 109, 3), (30, .ireturn, 1), (31, .aload_n 0, 1), (32, .iload_n 1, 1), (33, .invokevirtual 112, 3), (36, .ifCond .eq 9, 3), (39, .aload_n 0, 1), (40, .iconst 2, 1), (41, .invokevirtual 109, 3), (44, .ireturn, 1), (45, .aload_n 0, 1), (46, .iload_n 1, 1), (47, .iload_n 2, 1), (48, .invokevirtual 121, 3), (51, .aload_n 0, 1), (52, .iload_n 1, 1), (53, .iload_n 2, 1), (54, .invokevirtual 124, 3), (57, .istore_n 3, 1), (58, .iload_n 3, 1), (59, .ifCond .ge 9, 3), (62, .aload_n 0, 1), (63, .iconst 3, 1), (64, .invokevirtual 109, 3), (67, .ireturn, 1), (68, .aload_n 0, 1), (69, .iload_n 3, 1), (70, .invokevirtual 128, 3), (73, .ifCond .eq 12, 3), (76, .aload_n 0, 1), (77, .iload_n 3, 1), (78, .iload_n 2, 1), (79, .invokevirtual 131, 3), (82, .goto 8, 3), (85, .aload_n 0, 1), (86, .iconst 4, 1), (87, .invokevirtual 109, 3), (90, .ireturn, 1)]
abbrev rm_X2_read : Room := { frames := 5, cells := 0, slots := 0, locals := 108 }
abbrev y_X2_write : MethodName := ⟨"PagingKernelModel", "write", "(III)I"⟩
def T_X2_write : am_I := [(0, .aload_n 0, 1), (1, .iconst 0, 1), (2, .putfield 61, 3), (5, .aload_n 0, 1), (6, .iload_n 1, 1), (7, .bipush 6, 2), (9, .invokevirtual 105, 3), (12, .ifCond .ne 13, 3), (15, .aload_n 0, 1), (16, .iload_n 2, 1), (17, .bipush 44, 2), (19, .invokevirtual 105, 3), (22, .ifCond .eq 9, 3), (25, .aload_n 0, 1), (26, .iconst 1, 1), (27, .invokevirtual 109, 3), (30, .ireturn, 1), (31, .aload_n 0, 1), (32, .iload_n 1, 1), (33, .invokevirtual 112, 3), (36, .ifCond .eq 9, 3), (39, .aload_n 0, 1), (40, .iconst 2, 1), (41, .invokevirtual 109, 3), (44, .ireturn, 1), (45, .aload_n 0, 1), (46, .iload_n 1, 1), (47, .iload_n 2, 1), (48, .invokevirtual 121, 3), (51, .aload_n 0, 1), (52, .iload_n 1, 1), (53, .iload_n 2, 1), (54, .invokevirtual 124, 3), (57, .istore 4, 2), (59, .iload 4, 2), (61, .ifCond .ge 9, 3), (64, .aload_n 0, 1), (65, .iconst 3, 1), (66, .invokevirtual 109, 3), (69, .ireturn, 1), (70, .iload 4, 2), (72, .bipush 64, 2), (74, .if_icmp .lt 9, 3), (77, .aload_n 0, 1), (78, .iconst 4, 1), (79, .invokevirtual 109, 3), (82, .ireturn, 1), (83, .aload_n 0, 1), (84, .iload 4, 2), (86, .invokevirtual 128, 3), (89, .ifCond .ne 9, 3), (92, .aload_n 0, 1), (93, .iconst 5, 1), (94, .invokevirtual 109, 3), (97, .ireturn, 1), (98, .aload_n 0, 1), (99, .iload 4, 2), (101, .invokevirtual 64, 3), (104, .iconst 1, 1), (105, .if_icmp .le 123, 3), (108, .aload_n 0, 1), (109, .invokevirtual 96, 3), (112, .istore 5, 2), (114, .iload 5, 2), (116, .ifCond .ge 9, 3), (119, .aload_n 0, 1), (120, .iconst 5, 1), (121, .invokevirtual 109, 3), (124, .ireturn, 1), (125, .aload_n 0, 1), (126, .invokevirtual 72, 3), (129, .istore 6, 2), (131, .iconst 0, 1), (132, .istore 7, 2), (134, .iload 7, 2), (136, .iconst 4, 1), (137, .if_icmp .ge 33, 3), (140, .aload_n 0, 1), (141, .getfield 31, 3), (144, .iconst 4, 1), (145, .iload 6, 2), (147, .imul, 1), (148, .iload 7, 2), (150, .iadd, 1), (151, .aload_n 0, 1), (152, .getfield 31, 3), (155, .iconst 4, 1), (156, .iload 4, 2), (158, .imul, 1), (159, .iload 7, 2), (161, .iadd, 1), (162, .iaload, 1), (163, .iastore, 1), (164, .iinc 7 1, 3), (167, .goto (-33), 3), (170, .aload_n 0, 1), (171, .iload 6, 2), (173, .iload 5, 2), (175, .invokevirtual 99, 3), (178, .aload_n 0, 1), (179, .dup, 1), (180, .getfield 134, 3), (183, .iconst 1, 1), (184, .iadd, 1), (185, .putfield 134, 3), (188, .aload_n 0, 1), (189, .getfield 28, 3), (192, .bipush 9, 2), (194, .iload_n 1, 1), (195, .imul, 1), (196, .iload_n 2, 1), (197, .bipush 32, 2), (199, .if_icmp .ge 12, 3), (202, .iload_n 2, 1), (203, .bipush 8, 2), (205, .isub, 1), (206, .iconst 4, 1), (207, .idiv, 1), (208, .goto 12, 3), (211, .bipush 6, 2), (213, .iload_n 2, 1), (214, .bipush 32, 2), (216, .isub, 1), (217, .iconst 4, 1), (218, .idiv, 1), (219, .iadd, 1), (220, .iadd, 1), (221, .iload 6, 2), (223, .iastore, 1), (224, .iload 6, 2), (226, .istore 4, 2), (228, .aload_n 0, 1), (229, .iload 4, 2), (231, .iload_n 2, 1), (232, .invokevirtual 131, 3), (235, .istore 5, 2), (237, .aload_n 0, 1), (238, .getfield 31, 3), (241, .iconst 4, 1), (242, .iload 4, 2), (244, .imul, 1), (245, .iload_n 2, 1), (246, .iconst 4, 1), (247, .irem, 1), (248, .iadd, 1), (249, .iload_n 3, 1), (250, .iastore, 1), (251, .iload 5, 2), (253, .ireturn, 1)]
abbrev rm_X2_write : Room := { frames := 5, cells := 0, slots := 0, locals := 108 }
abbrev y_X2_sweep : MethodName := ⟨"PagingKernelModel", "sweep", "(I)I"⟩
def T_X2_sweep : am_I := [(0, .aload_n 0, 1), (1, .iconst 0, 1), (2, .putfield 61, 3), (5, .iload_n 1, 1), (6, .iconst 1, 1), (7, .if_icmp .lt 9, 3), (10, .iload_n 1, 1), (11, .bipush 20, 2), (13, .if_icmp .le 9, 3), (16, .aload_n 0, 1), (17, .iconst 1, 1), (18, .invokevirtual 109, 3), (21, .ireturn, 1), (22, .iconst 0, 1), (23, .istore_n 2, 1), (24, .iconst 0, 1), (25, .istore_n 3, 1), (26, .iload_n 3, 1), (27, .iload_n 1, 1), (28, .if_icmp .ge 19, 3), (31, .aload_n 0, 1), (32, .invokevirtual 92, 3), (35, .ifCond .eq 6, 3), (38, .iinc 2 1, 3), (41, .iinc 3 1, 3), (44, .goto (-18), 3), (47, .iload_n 2, 1), (48, .ireturn, 1)]
abbrev rm_X2_sweep : Room := { frames := 3, cells := 0, slots := 0, locals := 64 }
abbrev y_X2_swapOut : MethodName := ⟨"PagingKernelModel", "swapOut", "(I)I"⟩
def T_X2_swapOut : am_I := [(0, .aload_n 0, 1), (1, .iconst 0, 1), (2, .putfield 61, 3), (5, .aload_n 0, 1), (6, .iload_n 1, 1), (7, .bipush 6, 2), (9, .invokevirtual 105, 3), (12, .ifCond .eq 9, 3), (15, .aload_n 0, 1), (16, .iconst 1, 1), (17, .invokevirtual 109, 3), (20, .ireturn, 1), (21, .aload_n 0, 1), (22, .iload_n 1, 1), (23, .invokevirtual 112, 3), (26, .ifCond .eq 9, 3), (29, .aload_n 0, 1), (30, .iconst 2, 1), (31, .invokevirtual 109, 3), (34, .ireturn, 1), (35, .iconst 0, 1), (36, .istore_n 2, 1), (37, .iconst 0, 1), (38, .istore_n 3, 1), (39, .iload_n 3, 1), (40, .bipush 9, 2), (42, .if_icmp .ge 78, 3), (45, .aload_n 0, 1), (46, .getfield 28, 3), (49, .bipush 9, 2), (51, .iload_n 1, 1), (52, .imul, 1), (53, .iload_n 3, 1), (54, .iadd, 1), (55, .iaload, 1), (56, .istore 4, 2), (58, .iload 4, 2), (60, .ifCond .lt 54, 3), (63, .aload_n 0, 1), (64, .getfield 38, 3), (67, .iload 4, 2), (69, .iaload, 1), (70, .ifCond .lt 44, 3), (73, .aload_n 0, 1), (74, .getfield 38, 3), (77, .iload 4, 2), (79, .iaload, 1), (80, .bipush 100, 2), (82, .if_icmp .ge 32, 3), (85, .aload_n 0, 1), (86, .iload 4, 2), (88, .invokevirtual 64, 3), (91, .iconst 1, 1), (92, .if_icmp .ne 22, 3), (95, .aload_n 0, 1), (96, .invokevirtual 76, 3), (99, .ifCond .ge 6, 3), (102, .goto 12, 3), (105, .aload_n 0, 1), (106, .iload 4, 2), (108, .invokevirtual 89, 3), (111, .iinc 2 1, 3), (114, .iinc 3 1, 3), (117, .goto (-78), 3), (120, .iload_n 2, 1), (121, .ireturn, 1)]
abbrev rm_X2_swapOut : Room := { frames := 2, cells := 0, slots := 0, locals := 43 }
abbrev y_X2_seek : MethodName := ⟨"PagingKernelModel", "seek", "(II)I"⟩
def T_X2_seek : am_I := [(0, .aload_n 0, 1), (1, .iload_n 1, 1), (2, .bipush 6, 2), (4, .invokevirtual 105, 3), (7, .ifCond .ne 13, 3), (10, .aload_n 0, 1), (11, .iload_n 2, 1), (12, .bipush 44, 2), (14, .invokevirtual 105, 3), (17, .ifCond .eq 11, 3), (20, .aload_n 0, 1), (21, .iconst 1, 1), (22, .putfield 61, 3), (25, .goto 33, 3), (28, .aload_n 0, 1), (29, .iload_n 1, 1), (30, .invokevirtual 112, 3), (33, .ifCond .eq 11, 3), (36, .aload_n 0, 1), (37, .iconst 2, 1), (38, .putfield 61, 3), (41, .goto 17, 3), (44, .aload_n 0, 1), (45, .iload_n 1, 1), (46, .iload_n 2, 1), (47, .invokevirtual 124, 3), (50, .ifCond .ge 8, 3), (53, .aload_n 0, 1), (54, .iconst 3, 1), (55, .putfield 61, 3), (58, .aload_n 0, 1), (59, .getfield 61, 3), (62, .ifCond .le 7, 3), (65, .iconst (-1), 1), (66, .goto 9, 3), (69, .aload_n 0, 1), (70, .iload_n 1, 1), (71, .iload_n 2, 1), (72, .invokevirtual 124, 3), (75, .ireturn, 1)]
abbrev rm_X2_seek : Room := { frames := 1, cells := 0, slots := 0, locals := 22 }
abbrev y_X2_where : MethodName := ⟨"PagingKernelModel", "where", "(II)I"⟩
def T_X2_where : am_I := [(0, .aload_n 0, 1), (1, .iconst 0, 1), (2, .putfield 61, 3), (5, .aload_n 0, 1), (6, .iload_n 1, 1), (7, .iload_n 2, 1), (8, .invokevirtual 137, 3), (11, .istore_n 3, 1), (12, .iload_n 3, 1), (13, .ifCond .ge 7, 3), (16, .iconst 0, 1), (17, .goto 9, 3), (20, .aload_n 0, 1), (21, .getfield 38, 3), (24, .iload_n 3, 1), (25, .iaload, 1), (26, .ireturn, 1)]
abbrev rm_X2_where : Room := { frames := 2, cells := 0, slots := 0, locals := 44 }
abbrev y_X2_sharers : MethodName := ⟨"PagingKernelModel", "sharers", "(II)I"⟩
def T_X2_sharers : am_I := [(0, .aload_n 0, 1), (1, .iconst 0, 1), (2, .putfield 61, 3), (5, .aload_n 0, 1), (6, .iload_n 1, 1), (7, .iload_n 2, 1), (8, .invokevirtual 137, 3), (11, .istore_n 3, 1), (12, .iload_n 3, 1), (13, .ifCond .ge 7, 3), (16, .iconst 0, 1), (17, .goto 8, 3), (20, .aload_n 0, 1), (21, .iload_n 3, 1), (22, .invokevirtual 64, 3), (25, .ireturn, 1)]
abbrev rm_X2_sharers : Room := { frames := 2, cells := 0, slots := 0, locals := 44 }
abbrev y_X2_fact : MethodName := ⟨"PagingKernelModel", "fact", "(II)I"⟩
def T_X2_fact : am_I := [(0, .aload_n 0, 1), (1, .iconst 0, 1), (2, .putfield 61, 3), (5, .aload_n 0, 1), (6, .iload_n 1, 1), (7, .bipush 6, 2), (9, .invokevirtual 105, 3), (12, .ifCond .ne 12, 3), (15, .aload_n 0, 1), (16, .iload_n 2, 1), (17, .iconst 5, 1), (18, .invokevirtual 105, 3), (21, .ifCond .eq 9, 3), (24, .aload_n 0, 1), (25, .iconst 1, 1), (26, .invokevirtual 109, 3), (29, .ireturn, 1), (30, .iload_n 2, 1), (31, .ifCond .ne 10, 3), (34, .aload_n 0, 1), (35, .getfield 7, 3), (38, .iload_n 1, 1), (39, .iaload, 1), (40, .ireturn, 1), (41, .iload_n 2, 1), (42, .iconst 2, 1), (43, .if_icmp .ne 23, 3), (46, .aload_n 0, 1), (47, .getfield 7, 3), (50, .iload_n 1, 1), (51, .iaload, 1), (52, .ifCond .ne 7, 3), (55, .iconst (-1), 1), (56, .goto 9, 3), (59, .aload_n 0, 1), (60, .getfield 16, 3), (63, .iload_n 1, 1), (64, .iaload, 1), (65, .ireturn, 1), (66, .aload_n 0, 1), (67, .iload_n 1, 1), (68, .invokevirtual 112, 3), (71, .ifCond .eq 5, 3), (74, .iconst (-1), 1), (75, .ireturn, 1), (76, .iload_n 2, 1), (77, .iconst 1, 1), (78, .if_icmp .ne 12, 3), (81, .aload_n 0, 1), (82, .getfield 13, 3), (85, .iload_n 1, 1), (86, .iaload, 1), (87, .goto 23, 3), (90, .iload_n 2, 1), (91, .iconst 3, 1), (92, .if_icmp .ne 12, 3), (95, .aload_n 0, 1), (96, .getfield 22, 3), (99, .iload_n 1, 1), (100, .iaload, 1), (101, .goto 9, 3), (104, .aload_n 0, 1), (105, .getfield 25, 3), (108, .iload_n 1, 1), (109, .iaload, 1), (110, .ireturn, 1)]
abbrev rm_X2_fact : Room := { frames := 1, cells := 0, slots := 0, locals := 22 }
abbrev y_X2_count : MethodName := ⟨"PagingKernelModel", "count", "(I)I"⟩
def T_X2_count : am_I := [(0, .aload_n 0, 1), (1, .iconst 0, 1), (2, .putfield 61, 3), (5, .aload_n 0, 1), (6, .iload_n 1, 1), (7, .bipush 16, 2), (9, .invokevirtual 105, 3), (12, .ifCond .eq 9, 3), (15, .aload_n 0, 1), (16, .iconst 1, 1), (17, .invokevirtual 109, 3), (20, .ireturn, 1), (21, .iconst 0, 1), (22, .istore_n 2, 1), (23, .iconst 0, 1), (24, .istore_n 3, 1), (25, .iconst 0, 1), (26, .istore 4, 2), (28, .iload 4, 2), (30, .aload_n 0, 1), (31, .getfield 50, 3), (34, .if_icmp .ge 27, 3), (37, .iload_n 2, 1), (38, .aload_n 0, 1), (39, .getfield 41, 3), (42, .iload 4, 2), (44, .iaload, 1), (45, .ifCond .ge 7, 3), (48, .iconst 1, 1), (49, .goto 4, 3), (52, .iconst 0, 1), (53, .iadd, 1), (54, .istore_n 2, 1), (55, .iinc 4 1, 3), (58, .goto (-30), 3), (61, .iconst 0, 1), (62, .istore 4, 2), (64, .iload 4, 2), (66, .aload_n 0, 1), (67, .getfield 54, 3), (70, .if_icmp .ge 27, 3), (73, .iload_n 3, 1), (74, .aload_n 0, 1), (75, .getfield 47, 3), (78, .iload 4, 2), (80, .baload, 1), (81, .ifCond .eq 7, 3), (84, .iconst 0, 1), (85, .goto 4, 3), (88, .iconst 1, 1), (89, .iadd, 1), (90, .istore_n 3, 1), (91, .iinc 4 1, 3), (94, .goto (-30), 3), (97, .iload_n 1, 1), (98, .tableswitch 62 0 5 #[38, 40, 42, 47, 52, 57], 38), (136, .iload_n 2, 1), (137, .ireturn, 1), (138, .iload_n 3, 1), (139, .ireturn, 1), (140, .aload_n 0, 1), (141, .getfield 102, 3), (144, .ireturn, 1), (145, .aload_n 0, 1), (146, .getfield 134, 3), (149, .ireturn, 1), (150, .aload_n 0, 1), (151, .getfield 82, 3), (154, .ireturn, 1), (155, .aload_n 0, 1), (156, .getfield 79, 3), (159, .ireturn, 1), (160, .iload_n 1, 1), (161, .bipush 6, 2), (163, .isub, 1), (164, .istore 4, 2), (166, .aload_n 0, 1), (167, .getfield 41, 3), (170, .iload 4, 2), (172, .iaload, 1), (173, .ifCond .ge 7, 3), (176, .iconst (-1), 1), (177, .goto 18, 3), (180, .aload_n 0, 1), (181, .getfield 44, 3), (184, .iload 4, 2), (186, .baload, 1), (187, .ifCond .eq 7, 3), (190, .iconst 1, 1), (191, .goto 4, 3), (194, .iconst 0, 1), (195, .ireturn, 1)]
abbrev rm_X2_count : Room := { frames := 1, cells := 0, slots := 0, locals := 22 }
abbrev y_L_law : MethodName := ⟨"PagingKernelLaw", "law", "([I)Z"⟩
def T_L_law : am_I := [(0, .new 8, 3), (3, .dup, 1), (4, .aload_n 0, 1), (5, .iconst 0, 1), (6, .invokestatic 61, 3), (9, .aload_n 0, 1), (10, .iconst 1, 1), (11, .invokestatic 61, 3), (14, .invokespecial 67, 3), (17, .astore_n 1, 1), (18, .new 70, 3), (21, .dup, 1), (22, .aload_n 0, 1), (23, .iconst 0, 1), (24, .invokestatic 61, 3), (27, .aload_n 0, 1), (28, .iconst 1, 1), (29, .invokestatic 61, 3), (32, .invokespecial 72, 3), (35, .astore_n 2, 1), (36, .iconst 1, 1), (37, .newarray .long, 2), (39, .astore_n 3, 1), (40, .iconst 2, 1), (41, .istore 4, 2), (43, .iload 4, 2), (45, .aload_n 0, 1), (46, .arraylength, 1), (47, .iconst 4, 1), (48, .isub, 1), (49, .if_icmp .gt 917, 3), (52, .aload_n 0, 1), (53, .iload 4, 2), (55, .iaload, 1), (56, .bipush 15, 2), (58, .iand, 1), (59, .tableswitch 901 0 12 #[65, 121, 189, 257, 313, 381, 449, 529, 585, 641, 709, 777, 845], 65), (124, .aload_n 1, 1), (125, .aload_n 0, 1), (126, .iload 4, 2), (128, .iconst 1, 1), (129, .iadd, 1), (130, .iaload, 1), (131, .aload_n 3, 1), (132, .invokestatic 73, 3), (135, .istore 5, 2), (137, .aload_n 2, 1), (138, .aload_n 0, 1), (139, .iload 4, 2), (141, .iconst 1, 1), (142, .iadd, 1), (143, .iaload, 1), (144, .invokevirtual 76, 3), (147, .istore 6, 2), (149, .aload_n 2, 1), (150, .invokevirtual 77, 3), (153, .iload 5, 2), (155, .if_icmp .eq 5, 3), (158, .iconst 0, 1), (159, .ireturn, 1), (160, .iload 5, 2), (162, .ifCond .ne 15, 3), (165, .aload_n 3, 1), (166, .iconst 0, 1), (167, .laload, 1), (168, .iload 6, 2), (170, .i2l, 1), (171, .lcmp, 1), (172, .ifCond .eq 5, 3), (175, .iconst 0, 1), (176, .ireturn, 1), (177, .goto 783, 3), (180, .aload_n 1, 1), (181, .aload_n 0, 1), (182, .iload 4, 2), (184, .iconst 1, 1), (185, .iadd, 1), (186, .iaload, 1), (187, .aload_n 0, 1), (188, .iload 4, 2), (190, .iconst 2, 1), (191, .iadd, 1), (192, .iaload, 1), (193, .aload_n 3, 1), (194, .invokestatic 81, 3), (197, .istore 5, 2), (199, .aload_n 2, 1), (200, .aload_n 0, 1), (201, .iload 4, 2), (203, .iconst 1, 1), (204, .iadd, 1), (205, .iaload, 1), (206, .aload_n 0, 1), (207, .iload 4, 2), (209, .iconst 2, 1), (210, .iadd, 1), (211, .iaload, 1), (212, .invokevirtual 84, 3), (215, .istore 6, 2), (217, .aload_n 2, 1), (218, .invokevirtual 77, 3), (221, .iload 5, 2), (223, .if_icmp .eq 5, 3), (226, .iconst 0, 1), (227, .ireturn, 1), (228, .iload 5, 2), (230, .ifCond .ne 15, 3), (233, .aload_n 3, 1), (234, .iconst 0, 1), (235, .laload, 1), (236, .iload 6, 2), (238, .i2l, 1), (239, .lcmp, 1), (240, .ifCond .eq 5, 3), (243, .iconst 0, 1), (244, .ireturn, 1), (245, .goto 715, 3), (248, .aload_n 1, 1), (249, .aload_n 0, 1), (250, .iload 4, 2), (252, .iconst 1, 1), (253, .iadd, 1), (254, .iaload, 1), (255, .aload_n 0, 1), (256, .iload 4, 2), (258, .iconst 2, 1), (259, .iadd, 1), (260, .iaload, 1), (261, .aload_n 3, 1), (262, .invokestatic 85, 3), (265, .istore 5, 2), (267, .aload_n 2, 1), (268, .aload_n 0, 1), (269, .iload 4, 2), (271, .iconst 1, 1), (272, .iadd, 1), (273, .iaload, 1), (274, .aload_n 0, 1), (275, .iload 4, 2), (277, .iconst 2, 1), (278, .iadd, 1), (279, .iaload, 1), (280, .invokevirtual 87, 3), (283, .istore 6, 2), (285, .aload_n 2, 1), (286, .invokevirtual 77, 3), (289, .iload 5, 2), (291, .if_icmp .eq 5, 3), (294, .iconst 0, 1), (295, .ireturn, 1), (296, .iload 5, 2), (298, .ifCond .ne 15, 3), (301, .aload_n 3, 1), (302, .iconst 0, 1), (303, .laload, 1), (304, .iload 6, 2), (306, .i2l, 1), (307, .lcmp, 1), (308, .ifCond .eq 5, 3), (311, .iconst 0, 1), (312, .ireturn, 1), (313, .goto 647, 3), (316, .aload_n 1, 1), (317, .aload_n 0, 1), (318, .iload 4, 2), (320, .iconst 1, 1), (321, .iadd, 1), (322, .iaload, 1), (323, .aload_n 3, 1), (324, .invokestatic 88, 3), (327, .istore 5, 2), (329, .aload_n 2, 1), (330, .aload_n 0, 1), (331, .iload 4, 2), (333, .iconst 1, 1), (334, .iadd, 1), (335, .iaload, 1), (336, .invokevirtual 90, 3), (339, .istore 6, 2), (341, .aload_n 2, 1), (342, .invokevirtual 77, 3), (345, .iload 5, 2), (347, .if_icmp .eq 5, 3), (350, .iconst 0, 1), (351, .ireturn, 1), (352, .iload 5, 2), (354, .ifCond .ne 15, 3), (357, .aload_n 3, 1), (358, .iconst 0, 1), (359, .laload, 1), (360, .iload 6, 2), (362, .i2l, 1), (363, .lcmp, 1), (364, .ifCond .eq 5, 3), (367, .iconst 0, 1), (368, .ireturn, 1), (369, .goto 591, 3), (372, .aload_n 1, 1), (373, .aload_n 0, 1), (374, .iload 4, 2), (376, .iconst 1, 1), (377, .iadd, 1), (378, .iaload, 1), (379, .aload_n 0, 1), (380, .iload 4, 2), (382, .iconst 2, 1), (383, .iadd, 1), (384, .iaload, 1), (385, .aload_n 3, 1), (386, .invokestatic 91, 3), (389, .istore 5, 2), (391, .aload_n 2, 1), (392, .aload_n 0, 1), (393, .iload 4, 2), (395, .iconst 1, 1), (396, .iadd, 1), (397, .iaload, 1), (398, .aload_n 0, 1), (399, .iload 4, 2), (401, .iconst 2, 1), (402, .iadd, 1), (403, .iaload, 1), (404, .invokevirtual 93, 3), (407, .istore 6, 2), (409, .aload_n 2, 1), (410, .invokevirtual 77, 3), (413, .iload 5, 2), (415, .if_icmp .eq 5, 3), (418, .iconst 0, 1), (419, .ireturn, 1), (420, .iload 5, 2), (422, .ifCond .ne 15, 3), (425, .aload_n 3, 1), (426, .iconst 0, 1), (427, .laload, 1), (428, .iload 6, 2), (430, .i2l, 1), (431, .lcmp, 1), (432, .ifCond .eq 5, 3), (435, .iconst 0, 1), (436, .ireturn, 1), (437, .goto 523, 3), (440, .aload_n 1, 1), (441, .aload_n 0, 1), (442, .iload 4, 2), (444, .iconst 1, 1), (445, .iadd, 1), (446, .iaload, 1), (447, .aload_n 0, 1), (448, .iload 4, 2), (450, .iconst 2, 1), (451, .iadd, 1), (452, .iaload, 1), (453, .aload_n 3, 1), (454, .invokestatic 94, 3), (457, .istore 5, 2), (459, .aload_n 2, 1), (460, .aload_n 0, 1), (461, .iload 4, 2), (463, .iconst 1, 1), (464, .iadd, 1), (465, .iaload, 1), (466, .aload_n 0, 1), (467, .iload 4, 2), (469, .iconst 2, 1), (470, .iadd, 1), (471, .iaload, 1), (472, .invokevirtual 96, 3), (475, .istore 6, 2), (477, .aload_n 2, 1), (478, .invokevirtual 77, 3), (481, .iload 5, 2), (483, .if_icmp .eq 5, 3), (486, .iconst 0, 1), (487, .ireturn, 1), (488, .iload 5, 2), (490, .ifCond .ne 15, 3), (493, .aload_n 3, 1), (494, .iconst 0, 1), (495, .laload, 1), (496, .iload 6, 2), (498, .i2l, 1), (499, .lcmp, 1), (500, .ifCond .eq 5, 3), (503, .iconst 0, 1), (504, .ireturn, 1), (505, .goto 455, 3), (508, .aload_n 1, 1), (509, .aload_n 0, 1), (510, .iload 4, 2), (512, .iconst 1, 1), (513, .iadd, 1), (514, .iaload, 1), (515, .aload_n 0, 1), (516, .iload 4, 2), (518, .iconst 2, 1), (519, .iadd, 1), (520, .iaload, 1), (521, .aload_n 0, 1), (522, .iload 4, 2), (524, .iconst 3, 1), (525, .iadd, 1), (526, .iaload, 1), (527, .aload_n 3, 1), (528, .invokestatic 97, 3), (531, .istore 5, 2), (533, .aload_n 2, 1), (534, .aload_n 0, 1), (535, .iload 4, 2), (537, .iconst 1, 1), (538, .iadd, 1), (539, .iaload, 1), (540, .aload_n 0, 1), (541, .iload 4, 2), (543, .iconst 2, 1), (544, .iadd, 1), (545, .iaload, 1), (546, .aload_n 0, 1), (547, .iload 4, 2), (549, .iconst 3, 1), (550, .iadd, 1), (551, .iaload, 1), (552, .invokevirtual 100, 3), (555, .istore 6, 2), (557, .aload_n 2, 1), (558, .invokevirtual 77, 3), (561, .iload 5, 2), (563, .if_icmp .eq 5, 3), (566, .iconst 0, 1), (567, .ireturn, 1), (568, .iload 5, 2), (570, .ifCond .ne 15, 3), (573, .aload_n 3, 1), (574, .iconst 0, 1), (575, .laload, 1), (576, .iload 6, 2), (578, .i2l, 1), (579, .lcmp, 1), (580, .ifCond .eq 5, 3), (583, .iconst 0, 1), (584, .ireturn, 1), (585, .goto 375, 3), (588, .aload_n 1, 1), (589, .aload_n 0, 1), (590, .iload 4, 2), (592, .iconst 1, 1), (593, .iadd, 1), (594, .iaload, 1), (595, .aload_n 3, 1), (596, .invokestatic 101, 3), (599, .istore 5, 2), (601, .aload_n 2, 1), (602, .aload_n 0, 1), (603, .iload 4, 2), (605, .iconst 1, 1), (606, .iadd, 1), (607, .iaload, 1), (608, .invokevirtual 103, 3), (611, .istore 6, 2), (613, .aload_n 2, 1), (614, .invokevirtual 77, 3), (617, .iload 5, 2), (619, .if_icmp .eq 5, 3), (622, .iconst 0, 1), (623, .ireturn, 1), (624, .iload 5, 2), (626, .ifCond .ne 15, 3), (629, .aload_n 3, 1), (630, .iconst 0, 1), (631, .laload, 1), (632, .iload 6, 2), (634, .i2l, 1), (635, .lcmp, 1), (636, .ifCond .eq 5, 3), (639, .iconst 0, 1), (640, .ireturn, 1), (641, .goto 319, 3), (644, .aload_n 1, 1), (645, .aload_n 0, 1), (646, .iload 4, 2), (648, .iconst 1, 1), (649, .iadd, 1), (650, .iaload, 1), (651, .aload_n 3, 1), (652, .invokestatic 104, 3), (655, .istore 5, 2), (657, .aload_n 2, 1), (658, .aload_n 0, 1), (659, .iload 4, 2), (661, .iconst 1, 1), (662, .iadd, 1), (663, .iaload, 1), (664, .invokevirtual 106, 3), (667, .istore 6, 2), (669, .aload_n 2, 1), (670, .invokevirtual 77, 3), (673, .iload 5, 2), (675, .if_icmp .eq 5, 3), (678, .iconst 0, 1), (679, .ireturn, 1), (680, .iload 5, 2), (682, .ifCond .ne 15, 3), (685, .aload_n 3, 1), (686, .iconst 0, 1), (687, .laload, 1), (688, .iload 6, 2), (690, .i2l, 1), (691, .lcmp, 1), (692, .ifCond .eq 5, 3), (695, .iconst 0, 1), (696, .ireturn, 1), (697, .goto 263, 3), (700, .aload_n 1, 1), (701, .aload_n 0, 1), (702, .iload 4, 2), (704, .iconst 1, 1), (705, .iadd, 1), (706, .iaload, 1), (707, .aload_n 0, 1), (708, .iload 4, 2), (710, .iconst 2, 1), (711, .iadd, 1), (712, .iaload, 1), (713, .aload_n 3, 1), (714, .invokestatic 107, 3), (717, .istore 5, 2), (719, .aload_n 2, 1), (720, .aload_n 0, 1), (721, .iload 4, 2), (723, .iconst 1, 1), (724, .iadd, 1), (725, .iaload, 1), (726, .aload_n 0, 1), (727, .iload 4, 2), (729, .iconst 2, 1), (730, .iadd, 1), (731, .iaload, 1), (732, .invokevirtual 109, 3), (735, .istore 6, 2), (737, .aload_n 2, 1), (738, .invokevirtual 77, 3), (741, .iload 5, 2), (743, .if_icmp .eq 5, 3), (746, .iconst 0, 1), (747, .ireturn, 1), (748, .iload 5, 2), (750, .ifCond .ne 15, 3), (753, .aload_n 3, 1), (754, .iconst 0, 1), (755, .laload, 1), (756, .iload 6, 2), (758, .i2l, 1), (759, .lcmp, 1), (760, .ifCond .eq 5, 3), (763, .iconst 0, 1), (764, .ireturn, 1), (765, .goto 195, 3), (768, .aload_n 1, 1), (769, .aload_n 0, 1), (770, .iload 4, 2), (772, .iconst 1, 1), (773, .iadd, 1), (774, .iaload, 1), (775, .aload_n 0, 1), (776, .iload 4, 2), (778, .iconst 2, 1), (779, .iadd, 1), (780, .iaload, 1), (781, .aload_n 3, 1), (782, .invokestatic 110, 3), (785, .istore 5, 2), (787, .aload_n 2, 1), (788, .aload_n 0, 1), (789, .iload 4, 2), (791, .iconst 1, 1), (792, .iadd, 1), (793, .iaload, 1), (794, .aload_n 0, 1), (795, .iload 4, 2), (797, .iconst 2, 1), (798, .iadd, 1), (799, .iaload, 1), (800, .invokevirtual 112, 3), (803, .istore 6, 2), (805, .aload_n 2, 1), (806, .invokevirtual 77, 3), (809, .iload 5, 2), (811, .if_icmp .eq 5, 3), (814, .iconst 0, 1), (815, .ireturn, 1), (816, .iload 5, 2), (818, .ifCond .ne 15, 3), (821, .aload_n 3, 1), (822, .iconst 0, 1), (823, .laload, 1), (824, .iload 6, 2), (826, .i2l, 1), (827, .lcmp, 1), (828, .ifCond .eq 5, 3), (831, .iconst 0, 1), (832, .ireturn, 1), (833, .goto 127, 3), (836, .aload_n 1, 1), (837, .aload_n 0, 1), (838, .iload 4, 2), (840, .iconst 1, 1), (841, .iadd, 1), (842, .iaload, 1), (843, .aload_n 0, 1), (844, .iload 4, 2), (846, .iconst 2, 1), (847, .iadd, 1), (848, .iaload, 1), (849, .aload_n 3, 1), (850, .invokestatic 113, 3), (853, .istore 5, 2), (855, .aload_n 2, 1), (856, .aload_n 0, 1), (857, .iload 4, 2), (859, .iconst 1, 1), (860, .iadd, 1), (861, .iaload, 1), (862, .aload_n 0, 1), (863, .iload 4, 2), (865, .iconst 2, 1), (866, .iadd, 1), (867, .iaload, 1), (868, .invokevirtual 115, 3), (871, .istore 6, 2), (873, .aload_n 2, 1), (874, .invokevirtual 77, 3), (877, .iload 5, 2), (879, .if_icmp .eq 5, 3), (882, .iconst 0, 1), (883, .ireturn, 1), (884, .iload 5, 2), (886, .ifCond .ne 15, 3), (889, .aload_n 3, 1), (890, .iconst 0, 1), (891, .laload, 1), (892, .iload 6, 2), (894, .i2l, 1), (895, .lcmp, 1), (896, .ifCond .eq 5, 3), (899, .iconst 0, 1), (900, .ireturn, 1), (901, .goto 59, 3), (904, .aload_n 1, 1), (905, .aload_n 0, 1), (906, .iload 4, 2), (908, .iconst 1, 1), (909, .iadd, 1), (910, .iaload, 1), (911, .aload_n 3, 1), (912, .invokestatic 116, 3), (915, .istore 5, 2), (917, .aload_n 2, 1), (918, .aload_n 0, 1), (919, .iload 4, 2), (921, .iconst 1, 1), (922, .iadd, 1), (923, .iaload, 1), (924, .invokevirtual 118, 3), (927, .istore 6, 2), (929, .aload_n 2, 1), (930, .invokevirtual 77, 3), (933, .iload 5, 2), (935, .if_icmp .eq 5, 3), (938, .iconst 0, 1), (939, .ireturn, 1), (940, .iload 5, 2), (942, .ifCond .ne 15, 3), (945, .aload_n 3, 1), (946, .iconst 0, 1), (947, .laload, 1), (948, .iload 6, 2), (950, .i2l, 1), (951, .lcmp, 1), (952, .ifCond .eq 5, 3), (955, .iconst 0, 1), (956, .ireturn, 1), (957, .goto 3, 3), (960, .iinc 4 4, 3), (963, .goto (-920), 3), (966, .iconst 1, 1), (967, .ireturn, 1)]
abbrev rm_L_law : Room := { frames := 13, cells := 616043, slots := 7247942, locals := 472 }
end
section
section AMP
variable {p : Program} {l : Launch} {e : Env} {R : Room} {s : State} {m : MethodId} {args : Array Value} {below : List Frame} {meth : Method} {c : Code} {D : va_G} {tc : Nat → ClassId} {A : Nat → Prop} {nL n0 : Nat} {ad0 : am_A} {cc : ByteArray} {c0 : Cond} {hs : am_Hs} {rs : Nat → Option (Nat × (Nat → Int32))}
def X_J7_fill : am_X := []
def F_J7_fill : List am_V → am_H → Option am_O := am_fn T_J7_fill X_J7_fill 4 none am_rs0 [] [(5, [0, 1, 2, 3])] 400 (rm_J7_fill.cells, rm_J7_fill.slots)
theorem wc_J7_fill : Cond.code y_J7_fill prog_14_method_103_code 4 none ∈ lw_good := w_1_42
set_option maxRecDepth 100000 in
theorem M_J7_fill {l : Launch} (hl : l.stackTraces = false) : am_M am_cl0 am_rs0 am_zs0 l y_J7_fill (Cond.code y_J7_fill prog_14_method_103_code 4 none :: lw_good) rm_J7_fill (F_J7_fill) := am_meth hl (by decide +kernel) (by decide +kernel) (am_okx fun p e s m args below meth c D tc A n0 ad0 C hm => fun q hq => nomatch hq)
theorem op_X0_4_5 (C : am_Cx p l R s m args meth c cc nL (c0 :: lw_good) RX0 D am_cl0 tc A rs am_zs0 hs ad0) (hR : 1 ≤ R.frames ∧ 20 ≤ R.locals) : am_op p l e R s m args below meth c D am_cl0 tc A nL n0 ad0 cc (4, 5) am_fobj := am_fobj_ok C (am_tl w_1_39) (am_tl w_1_21) (am_tl w_1_22) hR
theorem op_X0_8_0 (C : am_Cx p l R s m args meth c cc nL (c0 :: lw_good) RX0 D am_cl0 tc A rs am_zs0 hs ad0) : am_op p l e R s m args below meth c D am_cl0 tc A nL n0 ad0 cc (8, 0) (am_fna 0) := am_fna_ok C (Or.inl ⟨rfl, am_tl w_1_78⟩)
theorem op_X0_1_11 (C : am_Cx p l R s m args meth c cc nL (c0 :: lw_good) RX0 D am_cl0 tc A rs am_zs0 hs ad0) (hm : meth.name = "<init>") : am_op p l e R s m args below meth c D am_cl0 tc A nL n0 ad0 cc (1, 11) (am_fput 0 0 1) := am_fput_ok (j := 0) (q := 1) (N := 10) (T := TX0) C tyX0 tyX0_ok nmX0 rfl (fun w hw => am_tl (hinX0 w hw)) (by decide) (am_tl w_1_43) (Or.inr ⟨rfl, hm, rfl⟩) (fun h => absurd h (by decide)) (fun _ => Or.inr ⟨_, rfl⟩)
theorem op_X0_1_15 (C : am_Cx p l R s m args meth c cc nL (c0 :: lw_good) RX0 D am_cl0 tc A rs am_zs0 hs ad0) (hm : meth.name = "<init>") : am_op p l e R s m args below meth c D am_cl0 tc A nL n0 ad0 cc (1, 15) (am_fput 0 1 1) := am_fput_ok (j := 1) (q := 1) (N := 10) (T := TX0) C tyX0 tyX0_ok nmX0 rfl (fun w hw => am_tl (hinX0 w hw)) (by decide) (am_tl w_1_44) (Or.inr ⟨rfl, hm, rfl⟩) (fun h => absurd h (by decide)) (fun _ => Or.inr ⟨_, rfl⟩)
theorem op_X0_1_18 (C : am_Cx p l R s m args meth c cc nL (c0 :: lw_good) RX0 D am_cl0 tc A rs am_zs0 hs ad0) (hm : meth.name = "<init>") : am_op p l e R s m args below meth c D am_cl0 tc A nL n0 ad0 cc (1, 18) (am_fput 0 2 1) := am_fput_ok (j := 2) (q := 1) (N := 10) (T := TX0) C tyX0 tyX0_ok nmX0 rfl (fun w hw => am_tl (hinX0 w hw)) (by decide) (am_tl w_1_45) (Or.inr ⟨rfl, hm, rfl⟩) (fun h => absurd h (by decide)) (fun _ => Or.inr ⟨_, rfl⟩)
theorem op_X0_1_21 (C : am_Cx p l R s m args meth c cc nL (c0 :: lw_good) RX0 D am_cl0 tc A rs am_zs0 hs ad0) : am_op p l e R s m args below meth c D am_cl0 tc A nL n0 ad0 cc (1, 21) (am_fput 0 6 0) := am_fput_ok (j := 6) (q := 0) (N := 10) (T := TX0) C tyX0 tyX0_ok nmX0 rfl (fun w hw => am_tl (hinX0 w hw)) (by decide) (am_tl w_1_49) (Or.inl rfl) (fun _ => rfl) (fun h => absurd h (by decide))
theorem op_X0_1_25 (C : am_Cx p l R s m args meth c cc nL (c0 :: lw_good) RX0 D am_cl0 tc A rs am_zs0 hs ad0) : am_op p l e R s m args below meth c D am_cl0 tc A nL n0 ad0 cc (1, 25) (am_fput 0 7 0) := am_fput_ok (j := 7) (q := 0) (N := 10) (T := TX0) C tyX0 tyX0_ok nmX0 rfl (fun w hw => am_tl (hinX0 w hw)) (by decide) (am_tl w_1_51) (Or.inl rfl) (fun _ => rfl) (fun h => absurd h (by decide))
theorem op_X0_1_28 (C : am_Cx p l R s m args meth c cc nL (c0 :: lw_good) RX0 D am_cl0 tc A rs am_zs0 hs ad0) : am_op p l e R s m args below meth c D am_cl0 tc A nL n0 ad0 cc (1, 28) (am_fput 0 8 0) := am_fput_ok (j := 8) (q := 0) (N := 10) (T := TX0) C tyX0 tyX0_ok nmX0 rfl (fun w hw => am_tl (hinX0 w hw)) (by decide) (am_tl w_1_53) (Or.inl rfl) (fun _ => rfl) (fun h => absurd h (by decide))
theorem op_X0_1_31 (C : am_Cx p l R s m args meth c cc nL (c0 :: lw_good) RX0 D am_cl0 tc A rs am_zs0 hs ad0) : am_op p l e R s m args below meth c D am_cl0 tc A nL n0 ad0 cc (1, 31) (am_fput 0 9 0) := am_fput_ok (j := 9) (q := 0) (N := 10) (T := TX0) C tyX0 tyX0_ok nmX0 rfl (fun w hw => am_tl (hinX0 w hw)) (by decide) (am_tl w_1_55) (Or.inl rfl) (fun _ => rfl) (fun h => absurd h (by decide))
theorem op_X0_1_34 (C : am_Cx p l R s m args meth c cc nL (c0 :: lw_good) RX0 D am_cl0 tc A rs am_zs0 hs ad0) (hm : meth.name = "<init>") : am_op p l e R s m args below meth c D am_cl0 tc A nL n0 ad0 cc (1, 34) (am_fput 0 3 1) := am_fput_ok (j := 3) (q := 1) (N := 10) (T := TX0) C tyX0 tyX0_ok nmX0 rfl (fun w hw => am_tl (hinX0 w hw)) (by decide) (am_tl w_1_46) (Or.inr ⟨rfl, hm, rfl⟩) (fun h => absurd h (by decide)) (fun _ => Or.inr ⟨_, rfl⟩)
theorem op_X0_8_1 (C : am_Cx p l R s m args meth c cc nL (c0 :: lw_good) RX0 D am_cl0 tc A rs am_zs0 hs ad0) : am_op p l e R s m args below meth c D am_cl0 tc A nL n0 ad0 cc (8, 1) (am_fna 1) := am_fna_ok C (Or.inr (Or.inl ⟨rfl, am_tl w_1_79⟩))
theorem op_X0_1_37 (C : am_Cx p l R s m args meth c cc nL (c0 :: lw_good) RX0 D am_cl0 tc A rs am_zs0 hs ad0) (hm : meth.name = "<init>") : am_op p l e R s m args below meth c D am_cl0 tc A nL n0 ad0 cc (1, 37) (am_fput 0 4 1) := am_fput_ok (j := 4) (q := 1) (N := 10) (T := TX0) C tyX0 tyX0_ok nmX0 rfl (fun w hw => am_tl (hinX0 w hw)) (by decide) (am_tl w_1_47) (Or.inr ⟨rfl, hm, rfl⟩) (fun h => absurd h (by decide)) (fun _ => Or.inr ⟨_, rfl⟩)
theorem op_X0_1_41 (C : am_Cx p l R s m args meth c cc nL (c0 :: lw_good) RX0 D am_cl0 tc A rs am_zs0 hs ad0) (hm : meth.name = "<init>") : am_op p l e R s m args below meth c D am_cl0 tc A nL n0 ad0 cc (1, 41) (am_fput 0 5 1) := am_fput_ok (j := 5) (q := 1) (N := 10) (T := TX0) C tyX0 tyX0_ok nmX0 rfl (fun w hw => am_tl (hinX0 w hw)) (by decide) (am_tl w_1_48) (Or.inr ⟨rfl, hm, rfl⟩) (fun h => absurd h (by decide)) (fun _ => Or.inr ⟨_, rfl⟩)
theorem op_X0_0_34 (C : am_Cx p l R s m args meth c cc nL (c0 :: lw_good) RX0 D am_cl0 tc A rs am_zs0 hs ad0) : am_op p l e R s m args below meth c D am_cl0 tc A nL n0 ad0 cc (0, 34) (am_fget 0 3) := am_fget_ok (j := 3) (N := 10) (T := TX0) C rfl (fun w hw => am_tl (hinX0 w hw)) (by decide) (am_tl w_1_46)
set_option maxRecDepth 10000 in
theorem op_X0_2_44 (C : am_Cx p l R s m args meth c cc nL (c0 :: lw_good) RX0 D am_cl0 tc A am_rs0 am_zs0 hs ad0) (hl : l.stackTraces = false) (hR : rm_J7_fill.frames + 1 ≤ R.frames ∧ 8 + (4 + 11) + rm_J7_fill.locals ≤ R.locals) : am_op p l e R s m args below meth c D am_cl0 tc A nL n0 ad0 cc (2, 44) (am_fcv none 2 F_J7_fill rm_J7_fill.cells rm_J7_fill.slots) := am_fcv_ok C (am_rn_S C (M_J7_fill hl) rfl (am_gd wc_J7_fill) (am_tl w_1_40) (am_tl w_1_41) (am_tl w_1_4) (by decide +kernel) hR)
theorem op_X0_0_41 (C : am_Cx p l R s m args meth c cc nL (c0 :: lw_good) RX0 D am_cl0 tc A rs am_zs0 hs ad0) : am_op p l e R s m args below meth c D am_cl0 tc A nL n0 ad0 cc (0, 41) (am_fget 0 5) := am_fget_ok (j := 5) (N := 10) (T := TX0) C rfl (fun w hw => am_tl (hinX0 w hw)) (by decide) (am_tl w_1_48)
theorem op_X0_0_18 (C : am_Cx p l R s m args meth c cc nL (c0 :: lw_good) RX0 D am_cl0 tc A rs am_zs0 hs ad0) : am_op p l e R s m args below meth c D am_cl0 tc A nL n0 ad0 cc (0, 18) (am_fget 0 2) := am_fget_ok (j := 2) (N := 10) (T := TX0) C rfl (fun w hw => am_tl (hinX0 w hw)) (by decide) (am_tl w_1_45)
theorem op_X0_0_11 (C : am_Cx p l R s m args meth c cc nL (c0 :: lw_good) RX0 D am_cl0 tc A rs am_zs0 hs ad0) : am_op p l e R s m args below meth c D am_cl0 tc A nL n0 ad0 cc (0, 11) (am_fget 0 0) := am_fget_ok (j := 0) (N := 10) (T := TX0) C rfl (fun w hw => am_tl (hinX0 w hw)) (by decide) (am_tl w_1_43)
def X_X0_init : am_X := [((4, 5), am_fobj), ((8, 0), (am_fna 0)), ((1, 11), (am_fput 0 0 1)), ((1, 15), (am_fput 0 1 1)), ((1, 18), (am_fput 0 2 1)), ((1, 21), (am_fput 0 6 0)), ((1, 25), (am_fput 0 7 0)), ((1, 28), (am_fput 0 8 0)), ((1, 31), (am_fput 0 9 0)), ((1, 34), (am_fput 0 3 1)), ((8, 1), (am_fna 1)), ((1, 37), (am_fput 0 4 1)), ((1, 41), (am_fput 0 5 1)), ((0, 34), (am_fget 0 3)), ((2, 44), (am_fcv none 2 F_J7_fill rm_J7_fill.cells rm_J7_fill.slots)), ((0, 41), (am_fget 0 5)), ((0, 18), (am_fget 0 2)), ((0, 11), (am_fget 0 0))]
def F_X0_init : List am_V → am_H → Option am_O := am_fn T_X0_init X_X0_init 5 none am_rs0 [] [(96, [0, 3]), (105, [0, 3, 4])] 400 (rm_X0_init.cells, rm_X0_init.slots)
theorem wc_X0_init : Cond.code y_X0_init prog_2_method_1_code 5 none ∈ lw_good := w_1_38
set_option maxRecDepth 100000 in
theorem M_X0_init {l : Launch} (hl : l.stackTraces = false) : am_M am_cl0 am_rs0 am_zs0 l y_X0_init (Cond.code y_X0_init prog_2_method_1_code 5 none :: lw_good) rm_X0_init (F_X0_init) := am_meth hl (by decide +kernel) (by decide +kernel) (am_okx fun p e s m args below meth c D tc A n0 ad0 C hm => List.forall_mem_cons.mpr ⟨op_X0_4_5 C ⟨by decide, by decide⟩, List.forall_mem_cons.mpr ⟨op_X0_8_0 C, List.forall_mem_cons.mpr ⟨op_X0_1_11 C hm, List.forall_mem_cons.mpr ⟨op_X0_1_15 C hm, List.forall_mem_cons.mpr ⟨op_X0_1_18 C hm, List.forall_mem_cons.mpr ⟨op_X0_1_21 C, List.forall_mem_cons.mpr ⟨op_X0_1_25 C, List.forall_mem_cons.mpr ⟨op_X0_1_28 C, List.forall_mem_cons.mpr ⟨op_X0_1_31 C, List.forall_mem_cons.mpr ⟨op_X0_1_34 C hm, List.forall_mem_cons.mpr ⟨op_X0_8_1 C, List.forall_mem_cons.mpr ⟨op_X0_1_37 C hm, List.forall_mem_cons.mpr ⟨op_X0_1_41 C hm, List.forall_mem_cons.mpr ⟨op_X0_0_34 C, List.forall_mem_cons.mpr ⟨op_X0_2_44 C hl ⟨by decide, by decide⟩, List.forall_mem_cons.mpr ⟨op_X0_0_41 C, List.forall_mem_cons.mpr ⟨op_X0_0_18 C, List.forall_mem_cons.mpr ⟨op_X0_0_11 C, fun q hq => nomatch hq⟩⟩⟩⟩⟩⟩⟩⟩⟩⟩⟩⟩⟩⟩⟩⟩⟩⟩)
def X_X0_textPage : am_X := []
def F_X0_textPage : List am_V → am_H → Option am_O := am_fn T_X0_textPage X_X0_textPage 2 (some .int) am_rs0 [] [] 400 (rm_X0_textPage.cells, rm_X0_textPage.slots)
theorem wc_X0_textPage : Cond.code y_X0_textPage prog_2_method_2_code 2 (some .int) ∈ lw_good := w_1_87
set_option maxRecDepth 100000 in
theorem M_X0_textPage {l : Launch} (hl : l.stackTraces = false) : am_M am_cl0 am_rs0 am_zs0 l y_X0_textPage (Cond.code y_X0_textPage prog_2_method_2_code 2 (some .int) :: lw_good) rm_X0_textPage (F_X0_textPage) := am_meth hl (by decide +kernel) (by decide +kernel) (am_okx fun p e s m args below meth c D tc A n0 ad0 C hm => fun q hq => nomatch hq)
theorem op_X0_0_15 (C : am_Cx p l R s m args meth c cc nL (c0 :: lw_good) RX0 D am_cl0 tc A rs am_zs0 hs ad0) : am_op p l e R s m args below meth c D am_cl0 tc A nL n0 ad0 cc (0, 15) (am_fget 0 1) := am_fget_ok (j := 1) (N := 10) (T := TX0) C rfl (fun w hw => am_tl (hinX0 w hw)) (by decide) (am_tl w_1_44)
def X_X0_join : am_X := [((0, 15), (am_fget 0 1))]
def F_X0_join : List am_V → am_H → Option am_O := am_fn T_X0_join X_X0_join 2 none am_rs0 [] [] 400 (rm_X0_join.cells, rm_X0_join.slots)
theorem wc_X0_join : Cond.code y_X0_join prog_2_method_11_code 2 none ∈ lw_good := w_1_91
set_option maxRecDepth 100000 in
theorem M_X0_join {l : Launch} (hl : l.stackTraces = false) : am_M am_cl0 am_rs0 am_zs0 l y_X0_join (Cond.code y_X0_join prog_2_method_11_code 2 none :: lw_good) rm_X0_join (F_X0_join) := am_meth hl (by decide +kernel) (by decide +kernel) (am_okx fun p e s m args below meth c D tc A n0 ad0 C hm => List.forall_mem_cons.mpr ⟨op_X0_0_15 C, fun q hq => nomatch hq⟩)
def X_X0_isIn : am_X := [((0, 18), (am_fget 0 2))]
def F_X0_isIn : List am_V → am_H → Option am_O := am_fn T_X0_isIn X_X0_isIn 2 (some .boolean) am_rs0 [] [] 400 (rm_X0_isIn.cells, rm_X0_isIn.slots)
theorem wc_X0_isIn : Cond.code y_X0_isIn prog_2_method_18_code 2 (some .boolean) ∈ lw_good := w_1_107
theorem sl_X0_isIn : Cond.selects RX0 y_X0_isIn y_X0_isIn ∈ lw_good := am_inS (q := (y_X0_isIn, 10)) (List.mem_append_left _ (List.mem_of_getElem? (i := 3) rfl))
set_option maxRecDepth 100000 in
theorem M_X0_isIn {l : Launch} (hl : l.stackTraces = false) : am_M am_cl0 am_rs0 am_zs0 l y_X0_isIn (Cond.code y_X0_isIn prog_2_method_18_code 2 (some .boolean) :: lw_good) rm_X0_isIn (F_X0_isIn) := am_meth hl (by decide +kernel) (by decide +kernel) (am_okx fun p e s m args below meth c D tc A n0 ad0 C hm => List.forall_mem_cons.mpr ⟨op_X0_0_18 C, fun q hq => nomatch hq⟩)
set_option maxRecDepth 10000 in
theorem op_X0_3_58 (C : am_Cx p l R s m args meth c cc nL (c0 :: lw_good) RX0 D am_cl0 tc A am_rs0 am_zs0 hs ad0) (hl : l.stackTraces = false) (hR : rm_X0_isIn.frames + 1 ≤ R.frames ∧ 8 + (2 + 11) + rm_X0_isIn.locals ≤ R.locals) : am_op p l e R s m args below meth c D am_cl0 tc A nL n0 ad0 cc (3, 58) (am_fci (some 0) 2 F_X0_isIn rm_X0_isIn.cells rm_X0_isIn.slots) := am_fci_ok C (am_rn_V C rfl (M_X0_isIn hl) rfl (am_gd wc_X0_isIn) (am_tl w_1_104) (am_tl w_1_106) (am_tl (sl_X0_isIn)) (am_tl w_1_2) (by decide +kernel) hR)
def X_X0_vacate : am_X := [((3, 58), (am_fci (some 0) 2 F_X0_isIn rm_X0_isIn.cells rm_X0_isIn.slots)), ((0, 34), (am_fget 0 3)), ((0, 18), (am_fget 0 2)), ((0, 41), (am_fget 0 5))]
def F_X0_vacate : List am_V → am_H → Option am_O := am_fn T_X0_vacate X_X0_vacate 2 none am_rs0 [] [] 400 (rm_X0_vacate.cells, rm_X0_vacate.slots)
theorem wc_X0_vacate : Cond.code y_X0_vacate prog_2_method_23_code 2 none ∈ lw_good := w_1_103
theorem sl_X0_vacate : Cond.selects RX0 y_X0_vacate y_X0_vacate ∈ lw_good := am_inS (q := (y_X0_vacate, 10)) (List.mem_append_left _ (List.mem_of_getElem? (i := 2) rfl))
set_option maxRecDepth 100000 in
theorem M_X0_vacate {l : Launch} (hl : l.stackTraces = false) : am_M am_cl0 am_rs0 am_zs0 l y_X0_vacate (Cond.code y_X0_vacate prog_2_method_23_code 2 none :: lw_good) rm_X0_vacate (F_X0_vacate) := am_meth hl (by decide +kernel) (by decide +kernel) (am_okx fun p e s m args below meth c D tc A n0 ad0 C hm => List.forall_mem_cons.mpr ⟨op_X0_3_58 C hl ⟨by decide, by decide⟩, List.forall_mem_cons.mpr ⟨op_X0_0_34 C, List.forall_mem_cons.mpr ⟨op_X0_0_18 C, List.forall_mem_cons.mpr ⟨op_X0_0_41 C, fun q hq => nomatch hq⟩⟩⟩⟩)
set_option maxRecDepth 10000 in
theorem op_X0_3_54 (C : am_Cx p l R s m args meth c cc nL (c0 :: lw_good) RX0 D am_cl0 tc A am_rs0 am_zs0 hs ad0) (hl : l.stackTraces = false) (hR : rm_X0_vacate.frames + 1 ≤ R.frames ∧ 8 + (2 + 11) + rm_X0_vacate.locals ≤ R.locals) : am_op p l e R s m args below meth c D am_cl0 tc A nL n0 ad0 cc (3, 54) (am_fcv (some 0) 2 F_X0_vacate rm_X0_vacate.cells rm_X0_vacate.slots) := am_fcv_ok C (am_rn_V C rfl (M_X0_vacate hl) rfl (am_gd wc_X0_vacate) (am_tl w_1_100) (am_tl w_1_102) (am_tl (sl_X0_vacate)) (am_tl w_1_2) (by decide +kernel) hR)
def X_X0_leave : am_X := [((0, 15), (am_fget 0 1)), ((3, 54), (am_fcv (some 0) 2 F_X0_vacate rm_X0_vacate.cells rm_X0_vacate.slots))]
def F_X0_leave : List am_V → am_H → Option am_O := am_fn T_X0_leave X_X0_leave 2 none am_rs0 [] [] 400 (rm_X0_leave.cells, rm_X0_leave.slots)
theorem wc_X0_leave : Cond.code y_X0_leave prog_2_method_12_code 2 none ∈ lw_good := w_1_99
set_option maxRecDepth 100000 in
theorem M_X0_leave {l : Launch} (hl : l.stackTraces = false) : am_M am_cl0 am_rs0 am_zs0 l y_X0_leave (Cond.code y_X0_leave prog_2_method_12_code 2 none :: lw_good) rm_X0_leave (F_X0_leave) := am_meth hl (by decide +kernel) (by decide +kernel) (am_okx fun p e s m args below meth c D tc A n0 ad0 C hm => List.forall_mem_cons.mpr ⟨op_X0_0_15 C, List.forall_mem_cons.mpr ⟨op_X0_3_54 C hl ⟨by decide, by decide⟩, fun q hq => nomatch hq⟩⟩)
def X_X0_newPage : am_X := [((0, 15), (am_fget 0 1)), ((0, 11), (am_fget 0 0))]
def F_X0_newPage : List am_V → am_H → Option am_O := am_fn T_X0_newPage X_X0_newPage 3 (some .int) am_rs0 [] [(3, [0, 1]), (26, [0, 1, 2])] 400 (rm_X0_newPage.cells, rm_X0_newPage.slots)
theorem wc_X0_newPage : Cond.code y_X0_newPage prog_2_method_10_code 3 (some .int) ∈ lw_good := w_1_117
set_option maxRecDepth 100000 in
theorem M_X0_newPage {l : Launch} (hl : l.stackTraces = false) : am_M am_cl0 am_rs0 am_zs0 l y_X0_newPage (Cond.code y_X0_newPage prog_2_method_10_code 3 (some .int) :: lw_good) rm_X0_newPage (F_X0_newPage) := am_meth hl (by decide +kernel) (by decide +kernel) (am_okx fun p e s m args below meth c D tc A n0 ad0 C hm => List.forall_mem_cons.mpr ⟨op_X0_0_15 C, List.forall_mem_cons.mpr ⟨op_X0_0_11 C, fun q hq => nomatch hq⟩⟩)
def X_X0_leastFree : am_X := []
def F_X0_leastFree : List am_V → am_H → Option am_O := am_fn T_X0_leastFree X_X0_leastFree 2 (some .int) am_rs0 [] [(2, [0, 1])] 400 (rm_X0_leastFree.cells, rm_X0_leastFree.slots)
theorem wc_X0_leastFree : Cond.code y_X0_leastFree prog_2_method_24_code 2 (some .int) ∈ lw_good := w_2_130
set_option maxRecDepth 100000 in
theorem M_X0_leastFree {l : Launch} (hl : l.stackTraces = false) : am_M am_cl0 am_rs0 am_zs0 l y_X0_leastFree (Cond.code y_X0_leastFree prog_2_method_24_code 2 (some .int) :: lw_good) rm_X0_leastFree (F_X0_leastFree) := am_meth hl (by decide +kernel) (by decide +kernel) (am_okx fun p e s m args below meth c D tc A n0 ad0 C hm => fun q hq => nomatch hq)
def X_X0_isText : am_X := []
def F_X0_isText : List am_V → am_H → Option am_O := am_fn T_X0_isText X_X0_isText 1 (some .boolean) am_rs0 [] [] 400 (rm_X0_isText.cells, rm_X0_isText.slots)
theorem wc_X0_isText : Cond.code y_X0_isText prog_2_method_19_code 1 (some .boolean) ∈ lw_good := w_2_141
set_option maxRecDepth 100000 in
theorem M_X0_isText {l : Launch} (hl : l.stackTraces = false) : am_M am_cl0 am_rs0 am_zs0 l y_X0_isText (Cond.code y_X0_isText prog_2_method_19_code 1 (some .boolean) :: lw_good) rm_X0_isText (F_X0_isText) := am_meth hl (by decide +kernel) (by decide +kernel) (am_okx fun p e s m args below meth c D tc A n0 ad0 C hm => fun q hq => nomatch hq)
set_option maxRecDepth 10000 in
theorem op_X0_2_98 (C : am_Cx p l R s m args meth c cc nL (c0 :: lw_good) RX0 D am_cl0 tc A am_rs0 am_zs0 hs ad0) (hl : l.stackTraces = false) (hR : rm_X0_isText.frames + 1 ≤ R.frames ∧ 8 + (1 + 11) + rm_X0_isText.locals ≤ R.locals) : am_op p l e R s m args below meth c D am_cl0 tc A nL n0 ad0 cc (2, 98) (am_fci none 1 F_X0_isText rm_X0_isText.cells rm_X0_isText.slots) := am_fci_ok C (am_rn_S C (M_X0_isText hl) rfl (am_gd wc_X0_isText) (am_tl w_2_139) (am_tl w_2_140) (am_tl w_1_2) (by decide +kernel) hR)
set_option maxRecDepth 10000 in
theorem op_X0_2_91 (C : am_Cx p l R s m args meth c cc nL (c0 :: lw_good) RX0 D am_cl0 tc A am_rs0 am_zs0 hs ad0) (hl : l.stackTraces = false) (hR : rm_X0_leastFree.frames + 1 ≤ R.frames ∧ 8 + (2 + 11) + rm_X0_leastFree.locals ≤ R.locals) : am_op p l e R s m args below meth c D am_cl0 tc A nL n0 ad0 cc (2, 91) (am_fci none 1 F_X0_leastFree rm_X0_leastFree.cells rm_X0_leastFree.slots) := am_fci_ok C (am_rn_S C (M_X0_leastFree hl) rfl (am_gd wc_X0_leastFree) (am_tl w_2_128) (am_tl w_2_129) (am_tl w_1_2) (by decide +kernel) hR)
def X_X0_canGo : am_X := [((2, 98), (am_fci none 1 F_X0_isText rm_X0_isText.cells rm_X0_isText.slots)), ((0, 41), (am_fget 0 5)), ((2, 91), (am_fci none 1 F_X0_leastFree rm_X0_leastFree.cells rm_X0_leastFree.slots))]
def F_X0_canGo : List am_V → am_H → Option am_O := am_fn T_X0_canGo X_X0_canGo 2 (some .boolean) am_rs0 [] [] 400 (rm_X0_canGo.cells, rm_X0_canGo.slots)
theorem wc_X0_canGo : Cond.code y_X0_canGo prog_2_method_20_code 2 (some .boolean) ∈ lw_good := w_2_138
theorem sl_X0_canGo : Cond.selects RX0 y_X0_canGo y_X0_canGo ∈ lw_good := am_inS (q := (y_X0_canGo, 10)) (List.mem_append_right _ (List.mem_append_left _ (List.mem_of_getElem? (i := 0) rfl)))
set_option maxRecDepth 100000 in
theorem M_X0_canGo {l : Launch} (hl : l.stackTraces = false) : am_M am_cl0 am_rs0 am_zs0 l y_X0_canGo (Cond.code y_X0_canGo prog_2_method_20_code 2 (some .boolean) :: lw_good) rm_X0_canGo (F_X0_canGo) := am_meth hl (by decide +kernel) (by decide +kernel) (am_okx fun p e s m args below meth c D tc A n0 ad0 C hm => List.forall_mem_cons.mpr ⟨op_X0_2_98 C hl ⟨by decide, by decide⟩, List.forall_mem_cons.mpr ⟨op_X0_0_41 C, List.forall_mem_cons.mpr ⟨op_X0_2_91 C hl ⟨by decide, by decide⟩, fun q hq => nomatch hq⟩⟩⟩)
theorem op_X0_0_31 (C : am_Cx p l R s m args meth c cc nL (c0 :: lw_good) RX0 D am_cl0 tc A rs am_zs0 hs ad0) : am_op p l e R s m args below meth c D am_cl0 tc A nL n0 ad0 cc (0, 31) (am_fget 0 9) := am_fget_ok (j := 9) (N := 10) (T := TX0) C rfl (fun w hw => am_tl (hinX0 w hw)) (by decide) (am_tl w_1_55)
def X_X0_sendOut : am_X := [((2, 98), (am_fci none 1 F_X0_isText rm_X0_isText.cells rm_X0_isText.slots)), ((0, 41), (am_fget 0 5)), ((2, 91), (am_fci none 1 F_X0_leastFree rm_X0_leastFree.cells rm_X0_leastFree.slots)), ((3, 54), (am_fcv (some 0) 2 F_X0_vacate rm_X0_vacate.cells rm_X0_vacate.slots)), ((0, 18), (am_fget 0 2)), ((0, 31), (am_fget 0 9)), ((1, 31), (am_fput 0 9 0))]
def F_X0_sendOut : List am_V → am_H → Option am_O := am_fn T_X0_sendOut X_X0_sendOut 3 none am_rs0 [] [] 400 (rm_X0_sendOut.cells, rm_X0_sendOut.slots)
theorem wc_X0_sendOut : Cond.code y_X0_sendOut prog_2_method_21_code 3 none ∈ lw_good := w_2_145
theorem sl_X0_sendOut : Cond.selects RX0 y_X0_sendOut y_X0_sendOut ∈ lw_good := am_inS (q := (y_X0_sendOut, 10)) (List.mem_append_right _ (List.mem_append_left _ (List.mem_of_getElem? (i := 1) rfl)))
set_option maxRecDepth 100000 in
theorem M_X0_sendOut {l : Launch} (hl : l.stackTraces = false) : am_M am_cl0 am_rs0 am_zs0 l y_X0_sendOut (Cond.code y_X0_sendOut prog_2_method_21_code 3 none :: lw_good) rm_X0_sendOut (F_X0_sendOut) := am_meth hl (by decide +kernel) (by decide +kernel) (am_okx fun p e s m args below meth c D tc A n0 ad0 C hm => List.forall_mem_cons.mpr ⟨op_X0_2_98 C hl ⟨by decide, by decide⟩, List.forall_mem_cons.mpr ⟨op_X0_0_41 C, List.forall_mem_cons.mpr ⟨op_X0_2_91 C hl ⟨by decide, by decide⟩, List.forall_mem_cons.mpr ⟨op_X0_3_54 C hl ⟨by decide, by decide⟩, List.forall_mem_cons.mpr ⟨op_X0_0_18 C, List.forall_mem_cons.mpr ⟨op_X0_0_31 C, List.forall_mem_cons.mpr ⟨op_X0_1_31 C, fun q hq => nomatch hq⟩⟩⟩⟩⟩⟩⟩)
theorem op_X0_0_21 (C : am_Cx p l R s m args meth c cc nL (c0 :: lw_good) RX0 D am_cl0 tc A rs am_zs0 hs ad0) : am_op p l e R s m args below meth c D am_cl0 tc A nL n0 ad0 cc (0, 21) (am_fget 0 6) := am_fget_ok (j := 6) (N := 10) (T := TX0) C rfl (fun w hw => am_tl (hinX0 w hw)) (by decide) (am_tl w_1_49)
theorem op_X0_0_37 (C : am_Cx p l R s m args meth c cc nL (c0 :: lw_good) RX0 D am_cl0 tc A rs am_zs0 hs ad0) : am_op p l e R s m args below meth c D am_cl0 tc A nL n0 ad0 cc (0, 37) (am_fget 0 4) := am_fget_ok (j := 4) (N := 10) (T := TX0) C rfl (fun w hw => am_tl (hinX0 w hw)) (by decide) (am_tl w_1_47)
set_option maxRecDepth 10000 in
theorem op_X0_3_85 (C : am_Cx p l R s m args meth c cc nL (c0 :: lw_good) RX0 D am_cl0 tc A am_rs0 am_zs0 hs ad0) (hl : l.stackTraces = false) (hR : rm_X0_canGo.frames + 1 ≤ R.frames ∧ 8 + (2 + 11) + rm_X0_canGo.locals ≤ R.locals) : am_op p l e R s m args below meth c D am_cl0 tc A nL n0 ad0 cc (3, 85) (am_fci (some 0) 2 F_X0_canGo rm_X0_canGo.cells rm_X0_canGo.slots) := am_fci_ok C (am_rn_V C rfl (M_X0_canGo hl) rfl (am_gd wc_X0_canGo) (am_tl w_2_135) (am_tl w_2_137) (am_tl (sl_X0_canGo)) (am_tl w_1_2) (by decide +kernel) hR)
set_option maxRecDepth 10000 in
theorem op_X0_3_88 (C : am_Cx p l R s m args meth c cc nL (c0 :: lw_good) RX0 D am_cl0 tc A am_rs0 am_zs0 hs ad0) (hl : l.stackTraces = false) (hR : rm_X0_sendOut.frames + 1 ≤ R.frames ∧ 8 + (3 + 11) + rm_X0_sendOut.locals ≤ R.locals) : am_op p l e R s m args below meth c D am_cl0 tc A nL n0 ad0 cc (3, 88) (am_fcv (some 0) 2 F_X0_sendOut rm_X0_sendOut.cells rm_X0_sendOut.slots) := am_fcv_ok C (am_rn_V C rfl (M_X0_sendOut hl) rfl (am_gd wc_X0_sendOut) (am_tl w_2_142) (am_tl w_2_144) (am_tl (sl_X0_sendOut)) (am_tl w_1_2) (by decide +kernel) hR)
def X_X0_lookAndMoveOn : am_X := [((0, 34), (am_fget 0 3)), ((0, 21), (am_fget 0 6)), ((0, 37), (am_fget 0 4)), ((3, 85), (am_fci (some 0) 2 F_X0_canGo rm_X0_canGo.cells rm_X0_canGo.slots)), ((3, 88), (am_fcv (some 0) 2 F_X0_sendOut rm_X0_sendOut.cells rm_X0_sendOut.slots)), ((1, 21), (am_fput 0 6 0))]
def F_X0_lookAndMoveOn : List am_V → am_H → Option am_O := am_fn T_X0_lookAndMoveOn X_X0_lookAndMoveOn 3 (some .boolean) am_rs0 [] [] 400 (rm_X0_lookAndMoveOn.cells, rm_X0_lookAndMoveOn.slots)
theorem wc_X0_lookAndMoveOn : Cond.code y_X0_lookAndMoveOn prog_2_method_15_code 3 (some .boolean) ∈ lw_good := w_2_134
set_option maxRecDepth 100000 in
theorem M_X0_lookAndMoveOn {l : Launch} (hl : l.stackTraces = false) : am_M am_cl0 am_rs0 am_zs0 l y_X0_lookAndMoveOn (Cond.code y_X0_lookAndMoveOn prog_2_method_15_code 3 (some .boolean) :: lw_good) rm_X0_lookAndMoveOn (F_X0_lookAndMoveOn) := am_meth hl (by decide +kernel) (by decide +kernel) (am_okx fun p e s m args below meth c D tc A n0 ad0 C hm => List.forall_mem_cons.mpr ⟨op_X0_0_34 C, List.forall_mem_cons.mpr ⟨op_X0_0_21 C, List.forall_mem_cons.mpr ⟨op_X0_0_37 C, List.forall_mem_cons.mpr ⟨op_X0_3_85 C hl ⟨by decide, by decide⟩, List.forall_mem_cons.mpr ⟨op_X0_3_88 C hl ⟨by decide, by decide⟩, List.forall_mem_cons.mpr ⟨op_X0_1_21 C, fun q hq => nomatch hq⟩⟩⟩⟩⟩⟩)
set_option maxRecDepth 10000 in
theorem op_X0_3_94 (C : am_Cx p l R s m args meth c cc nL (c0 :: lw_good) RX0 D am_cl0 tc A am_rs0 am_zs0 hs ad0) (hl : l.stackTraces = false) (hR : rm_X0_lookAndMoveOn.frames + 1 ≤ R.frames ∧ 8 + (3 + 11) + rm_X0_lookAndMoveOn.locals ≤ R.locals) : am_op p l e R s m args below meth c D am_cl0 tc A nL n0 ad0 cc (3, 94) (am_fci (some 0) 1 F_X0_lookAndMoveOn rm_X0_lookAndMoveOn.cells rm_X0_lookAndMoveOn.slots) := am_fci_ok C (am_rn_V C rfl (M_X0_lookAndMoveOn hl) rfl (am_gd wc_X0_lookAndMoveOn) (am_tl w_2_131) (am_tl w_2_132) (am_tl w_2_133) (am_tl w_1_2) (by decide +kernel) hR)
def X_X0_getFrame : am_X := [((0, 34), (am_fget 0 3)), ((2, 91), (am_fci none 1 F_X0_leastFree rm_X0_leastFree.cells rm_X0_leastFree.slots)), ((0, 21), (am_fget 0 6)), ((3, 94), (am_fci (some 0) 1 F_X0_lookAndMoveOn rm_X0_lookAndMoveOn.cells rm_X0_lookAndMoveOn.slots))]
def F_X0_getFrame : List am_V → am_H → Option am_O := am_fn T_X0_getFrame X_X0_getFrame 4 (some .int) am_rs0 [] [(17, [0, 2])] 400 (rm_X0_getFrame.cells, rm_X0_getFrame.slots)
theorem wc_X0_getFrame : Cond.code y_X0_getFrame prog_2_method_17_code 4 (some .int) ∈ lw_good := w_2_127
theorem sl_X0_getFrame : Cond.selects RX0 y_X0_getFrame y_X0_getFrame ∈ lw_good := am_inS (q := (y_X0_getFrame, 10)) (List.mem_append_left _ (List.mem_of_getElem? (i := 15) rfl))
set_option maxRecDepth 100000 in
theorem M_X0_getFrame {l : Launch} (hl : l.stackTraces = false) : am_M am_cl0 am_rs0 am_zs0 l y_X0_getFrame (Cond.code y_X0_getFrame prog_2_method_17_code 4 (some .int) :: lw_good) rm_X0_getFrame (F_X0_getFrame) := am_meth hl (by decide +kernel) (by decide +kernel) (am_okx fun p e s m args below meth c D tc A n0 ad0 C hm => List.forall_mem_cons.mpr ⟨op_X0_0_34 C, List.forall_mem_cons.mpr ⟨op_X0_2_91 C hl ⟨by decide, by decide⟩, List.forall_mem_cons.mpr ⟨op_X0_0_21 C, List.forall_mem_cons.mpr ⟨op_X0_3_94 C hl ⟨by decide, by decide⟩, fun q hq => nomatch hq⟩⟩⟩⟩)
def X_X0_settle : am_X := [((0, 34), (am_fget 0 3)), ((0, 18), (am_fget 0 2)), ((0, 37), (am_fget 0 4))]
def F_X0_settle : List am_V → am_H → Option am_O := am_fn T_X0_settle X_X0_settle 3 none am_rs0 [] [] 400 (rm_X0_settle.cells, rm_X0_settle.slots)
theorem wc_X0_settle : Cond.code y_X0_settle prog_2_method_22_code 3 none ∈ lw_good := w_2_149
theorem sl_X0_settle : Cond.selects RX0 y_X0_settle y_X0_settle ∈ lw_good := am_inS (q := (y_X0_settle, 10)) (List.mem_append_right _ (List.mem_append_left _ (List.mem_of_getElem? (i := 2) rfl)))
set_option maxRecDepth 100000 in
theorem M_X0_settle {l : Launch} (hl : l.stackTraces = false) : am_M am_cl0 am_rs0 am_zs0 l y_X0_settle (Cond.code y_X0_settle prog_2_method_22_code 3 none :: lw_good) rm_X0_settle (F_X0_settle) := am_meth hl (by decide +kernel) (by decide +kernel) (am_okx fun p e s m args below meth c D tc A n0 ad0 C hm => List.forall_mem_cons.mpr ⟨op_X0_0_34 C, List.forall_mem_cons.mpr ⟨op_X0_0_18 C, List.forall_mem_cons.mpr ⟨op_X0_0_37 C, fun q hq => nomatch hq⟩⟩⟩)
set_option maxRecDepth 10000 in
theorem op_X0_3_62 (C : am_Cx p l R s m args meth c cc nL (c0 :: lw_good) RX0 D am_cl0 tc A am_rs0 am_zs0 hs ad0) (hl : l.stackTraces = false) (hR : rm_X0_getFrame.frames + 1 ≤ R.frames ∧ 8 + (4 + 11) + rm_X0_getFrame.locals ≤ R.locals) : am_op p l e R s m args below meth c D am_cl0 tc A nL n0 ad0 cc (3, 62) (am_fci (some 0) 1 F_X0_getFrame rm_X0_getFrame.cells rm_X0_getFrame.slots) := am_fci_ok C (am_rn_V C rfl (M_X0_getFrame hl) rfl (am_gd wc_X0_getFrame) (am_tl w_2_124) (am_tl w_2_126) (am_tl (sl_X0_getFrame)) (am_tl w_1_2) (by decide +kernel) hR)
set_option maxRecDepth 10000 in
theorem op_X0_3_66 (C : am_Cx p l R s m args meth c cc nL (c0 :: lw_good) RX0 D am_cl0 tc A am_rs0 am_zs0 hs ad0) (hl : l.stackTraces = false) (hR : rm_X0_settle.frames + 1 ≤ R.frames ∧ 8 + (3 + 11) + rm_X0_settle.locals ≤ R.locals) : am_op p l e R s m args below meth c D am_cl0 tc A nL n0 ad0 cc (3, 66) (am_fcv (some 0) 3 F_X0_settle rm_X0_settle.cells rm_X0_settle.slots) := am_fcv_ok C (am_rn_V C rfl (M_X0_settle hl) rfl (am_gd wc_X0_settle) (am_tl w_2_146) (am_tl w_2_148) (am_tl (sl_X0_settle)) (am_tl w_1_2) (by decide +kernel) hR)
theorem op_X0_0_25 (C : am_Cx p l R s m args meth c cc nL (c0 :: lw_good) RX0 D am_cl0 tc A rs am_zs0 hs ad0) : am_op p l e R s m args below meth c D am_cl0 tc A nL n0 ad0 cc (0, 25) (am_fget 0 7) := am_fget_ok (j := 7) (N := 10) (T := TX0) C rfl (fun w hw => am_tl (hinX0 w hw)) (by decide) (am_tl w_1_51)
def X_X0_touch : am_X := [((3, 58), (am_fci (some 0) 2 F_X0_isIn rm_X0_isIn.cells rm_X0_isIn.slots)), ((0, 37), (am_fget 0 4)), ((0, 18), (am_fget 0 2)), ((3, 62), (am_fci (some 0) 1 F_X0_getFrame rm_X0_getFrame.cells rm_X0_getFrame.slots)), ((3, 54), (am_fcv (some 0) 2 F_X0_vacate rm_X0_vacate.cells rm_X0_vacate.slots)), ((3, 66), (am_fcv (some 0) 3 F_X0_settle rm_X0_settle.cells rm_X0_settle.slots)), ((0, 25), (am_fget 0 7)), ((1, 25), (am_fput 0 7 0))]
def F_X0_touch : List am_V → am_H → Option am_O := am_fn T_X0_touch X_X0_touch 3 (some .boolean) am_rs0 [] [] 400 (rm_X0_touch.cells, rm_X0_touch.slots)
theorem wc_X0_touch : Cond.code y_X0_touch prog_2_method_13_code 3 (some .boolean) ∈ lw_good := w_2_123
set_option maxRecDepth 100000 in
theorem M_X0_touch {l : Launch} (hl : l.stackTraces = false) : am_M am_cl0 am_rs0 am_zs0 l y_X0_touch (Cond.code y_X0_touch prog_2_method_13_code 3 (some .boolean) :: lw_good) rm_X0_touch (F_X0_touch) := am_meth hl (by decide +kernel) (by decide +kernel) (am_okx fun p e s m args below meth c D tc A n0 ad0 C hm => List.forall_mem_cons.mpr ⟨op_X0_3_58 C hl ⟨by decide, by decide⟩, List.forall_mem_cons.mpr ⟨op_X0_0_37 C, List.forall_mem_cons.mpr ⟨op_X0_0_18 C, List.forall_mem_cons.mpr ⟨op_X0_3_62 C hl ⟨by decide, by decide⟩, List.forall_mem_cons.mpr ⟨op_X0_3_54 C hl ⟨by decide, by decide⟩, List.forall_mem_cons.mpr ⟨op_X0_3_66 C hl ⟨by decide, by decide⟩, List.forall_mem_cons.mpr ⟨op_X0_0_25 C, List.forall_mem_cons.mpr ⟨op_X0_1_25 C, fun q hq => nomatch hq⟩⟩⟩⟩⟩⟩⟩⟩)
def X_X0_wordOf : am_X := [((0, 11), (am_fget 0 0))]
def F_X0_wordOf : List am_V → am_H → Option am_O := am_fn T_X0_wordOf X_X0_wordOf 3 (some .int) am_rs0 [] [] 400 (rm_X0_wordOf.cells, rm_X0_wordOf.slots)
theorem wc_X0_wordOf : Cond.code y_X0_wordOf prog_2_method_3_code 3 (some .int) ∈ lw_good := w_2_153
set_option maxRecDepth 100000 in
theorem M_X0_wordOf {l : Launch} (hl : l.stackTraces = false) : am_M am_cl0 am_rs0 am_zs0 l y_X0_wordOf (Cond.code y_X0_wordOf prog_2_method_3_code 3 (some .int) :: lw_good) rm_X0_wordOf (F_X0_wordOf) := am_meth hl (by decide +kernel) (by decide +kernel) (am_okx fun p e s m args below meth c D tc A n0 ad0 C hm => List.forall_mem_cons.mpr ⟨op_X0_0_11 C, fun q hq => nomatch hq⟩)
set_option maxRecDepth 10000 in
theorem op_X0_3_70 (C : am_Cx p l R s m args meth c cc nL (c0 :: lw_good) RX0 D am_cl0 tc A am_rs0 am_zs0 hs ad0) (hl : l.stackTraces = false) (hR : rm_X0_touch.frames + 1 ≤ R.frames ∧ 8 + (3 + 11) + rm_X0_touch.locals ≤ R.locals) : am_op p l e R s m args below meth c D am_cl0 tc A nL n0 ad0 cc (3, 70) (am_fci (some 0) 2 F_X0_touch rm_X0_touch.cells rm_X0_touch.slots) := am_fci_ok C (am_rn_V C rfl (M_X0_touch hl) rfl (am_gd wc_X0_touch) (am_tl w_2_165) (am_tl w_2_121) (am_tl w_2_122) (am_tl w_1_2) (by decide +kernel) hR)
set_option maxRecDepth 10000 in
theorem op_X0_3_73 (C : am_Cx p l R s m args meth c cc nL (c0 :: lw_good) RX0 D am_cl0 tc A am_rs0 am_zs0 hs ad0) (hl : l.stackTraces = false) (hR : rm_X0_newPage.frames + 1 ≤ R.frames ∧ 8 + (3 + 11) + rm_X0_newPage.locals ≤ R.locals) : am_op p l e R s m args below meth c D am_cl0 tc A nL n0 ad0 cc (3, 73) (am_fci (some 0) 1 F_X0_newPage rm_X0_newPage.cells rm_X0_newPage.slots) := am_fci_ok C (am_rn_V C rfl (M_X0_newPage hl) rfl (am_gd wc_X0_newPage) (am_tl w_2_166) (am_tl w_1_115) (am_tl w_1_116) (am_tl w_1_2) (by decide +kernel) hR)
theorem op_X0_2_76 (C : am_Cx p l R s m args meth c cc nL (c0 :: lw_good) RX0 D am_cl0 tc A rs am_zs0 hs ad0) (hR : 1 ≤ R.frames ∧ 8 + (nativeFrameWords "java/lang/System" "arraycopy" 5 + 11) ≤ R.locals) : am_op p l e R s m args below meth c D am_cl0 tc A nL n0 ad0 cc (2, 76) am_fcpy := am_fcpy_ok C (am_tl w_2_167) (am_tl w_2_169) (am_tl w_2_168) (am_tl w_1_14) hR
theorem op_X0_0_28 (C : am_Cx p l R s m args meth c cc nL (c0 :: lw_good) RX0 D am_cl0 tc A rs am_zs0 hs ad0) : am_op p l e R s m args below meth c D am_cl0 tc A nL n0 ad0 cc (0, 28) (am_fget 0 8) := am_fget_ok (j := 8) (N := 10) (T := TX0) C rfl (fun w hw => am_tl (hinX0 w hw)) (by decide) (am_tl w_1_53)
set_option maxRecDepth 10000 in
theorem op_X0_3_82 (C : am_Cx p l R s m args meth c cc nL (c0 :: lw_good) RX0 D am_cl0 tc A am_rs0 am_zs0 hs ad0) (hl : l.stackTraces = false) (hR : rm_X0_leave.frames + 1 ≤ R.frames ∧ 8 + (2 + 11) + rm_X0_leave.locals ≤ R.locals) : am_op p l e R s m args below meth c D am_cl0 tc A nL n0 ad0 cc (3, 82) (am_fcv (some 0) 2 F_X0_leave rm_X0_leave.cells rm_X0_leave.slots) := am_fcv_ok C (am_rn_V C rfl (M_X0_leave hl) rfl (am_gd wc_X0_leave) (am_tl w_2_170) (am_tl w_1_97) (am_tl w_1_98) (am_tl w_1_2) (by decide +kernel) hR)
def X_X0_touchOwn : am_X := [((3, 70), (am_fci (some 0) 2 F_X0_touch rm_X0_touch.cells rm_X0_touch.slots)), ((0, 15), (am_fget 0 1)), ((3, 62), (am_fci (some 0) 1 F_X0_getFrame rm_X0_getFrame.cells rm_X0_getFrame.slots)), ((3, 73), (am_fci (some 0) 1 F_X0_newPage rm_X0_newPage.cells rm_X0_newPage.slots)), ((0, 11), (am_fget 0 0)), ((2, 76), am_fcpy), ((3, 66), (am_fcv (some 0) 3 F_X0_settle rm_X0_settle.cells rm_X0_settle.slots)), ((0, 28), (am_fget 0 8)), ((1, 28), (am_fput 0 8 0)), ((3, 82), (am_fcv (some 0) 2 F_X0_leave rm_X0_leave.cells rm_X0_leave.slots))]
def F_X0_touchOwn : List am_V → am_H → Option am_O := am_fn T_X0_touchOwn X_X0_touchOwn 4 (some .int) am_rs0 [] [] 400 (rm_X0_touchOwn.cells, rm_X0_touchOwn.slots)
theorem wc_X0_touchOwn : Cond.code y_X0_touchOwn prog_2_method_14_code 4 (some .int) ∈ lw_good := w_2_164
set_option maxRecDepth 100000 in
theorem M_X0_touchOwn {l : Launch} (hl : l.stackTraces = false) : am_M am_cl0 am_rs0 am_zs0 l y_X0_touchOwn (Cond.code y_X0_touchOwn prog_2_method_14_code 4 (some .int) :: lw_good) rm_X0_touchOwn (F_X0_touchOwn) := am_meth hl (by decide +kernel) (by decide +kernel) (am_okx fun p e s m args below meth c D tc A n0 ad0 C hm => List.forall_mem_cons.mpr ⟨op_X0_3_70 C hl ⟨by decide, by decide⟩, List.forall_mem_cons.mpr ⟨op_X0_0_15 C, List.forall_mem_cons.mpr ⟨op_X0_3_62 C hl ⟨by decide, by decide⟩, List.forall_mem_cons.mpr ⟨op_X0_3_73 C hl ⟨by decide, by decide⟩, List.forall_mem_cons.mpr ⟨op_X0_0_11 C, List.forall_mem_cons.mpr ⟨op_X0_2_76 C ⟨by decide, by decide +kernel⟩, List.forall_mem_cons.mpr ⟨op_X0_3_66 C hl ⟨by decide, by decide⟩, List.forall_mem_cons.mpr ⟨op_X0_0_28 C, List.forall_mem_cons.mpr ⟨op_X0_1_28 C, List.forall_mem_cons.mpr ⟨op_X0_3_82 C hl ⟨by decide, by decide⟩, fun q hq => nomatch hq⟩⟩⟩⟩⟩⟩⟩⟩⟩⟩)
def X_X0_replaceWord : am_X := [((0, 11), (am_fget 0 0))]
def F_X0_replaceWord : List am_V → am_H → Option am_O := am_fn T_X0_replaceWord X_X0_replaceWord 5 (some .int) am_rs0 [] [] 400 (rm_X0_replaceWord.cells, rm_X0_replaceWord.slots)
theorem wc_X0_replaceWord : Cond.code y_X0_replaceWord prog_2_method_4_code 5 (some .int) ∈ lw_good := w_2_174
set_option maxRecDepth 100000 in
theorem M_X0_replaceWord {l : Launch} (hl : l.stackTraces = false) : am_M am_cl0 am_rs0 am_zs0 l y_X0_replaceWord (Cond.code y_X0_replaceWord prog_2_method_4_code 5 (some .int) :: lw_good) rm_X0_replaceWord (F_X0_replaceWord) := am_meth hl (by decide +kernel) (by decide +kernel) (am_okx fun p e s m args below meth c D tc A n0 ad0 C hm => List.forall_mem_cons.mpr ⟨op_X0_0_11 C, fun q hq => nomatch hq⟩)
def X_X0_sendOutIfUnshared : am_X := [((3, 58), (am_fci (some 0) 2 F_X0_isIn rm_X0_isIn.cells rm_X0_isIn.slots)), ((0, 15), (am_fget 0 1)), ((3, 85), (am_fci (some 0) 2 F_X0_canGo rm_X0_canGo.cells rm_X0_canGo.slots)), ((3, 88), (am_fcv (some 0) 2 F_X0_sendOut rm_X0_sendOut.cells rm_X0_sendOut.slots))]
def F_X0_sendOutIfUnshared : List am_V → am_H → Option am_O := am_fn T_X0_sendOutIfUnshared X_X0_sendOutIfUnshared 3 (some .boolean) am_rs0 [] [] 400 (rm_X0_sendOutIfUnshared.cells, rm_X0_sendOutIfUnshared.slots)
theorem wc_X0_sendOutIfUnshared : Cond.code y_X0_sendOutIfUnshared prog_2_method_16_code 3 (some .boolean) ∈ lw_good := w_2_193
set_option maxRecDepth 100000 in
theorem M_X0_sendOutIfUnshared {l : Launch} (hl : l.stackTraces = false) : am_M am_cl0 am_rs0 am_zs0 l y_X0_sendOutIfUnshared (Cond.code y_X0_sendOutIfUnshared prog_2_method_16_code 3 (some .boolean) :: lw_good) rm_X0_sendOutIfUnshared (F_X0_sendOutIfUnshared) := am_meth hl (by decide +kernel) (by decide +kernel) (am_okx fun p e s m args below meth c D tc A n0 ad0 C hm => List.forall_mem_cons.mpr ⟨op_X0_3_58 C hl ⟨by decide, by decide⟩, List.forall_mem_cons.mpr ⟨op_X0_0_15 C, List.forall_mem_cons.mpr ⟨op_X0_3_85 C hl ⟨by decide, by decide⟩, List.forall_mem_cons.mpr ⟨op_X0_3_88 C hl ⟨by decide, by decide⟩, fun q hq => nomatch hq⟩⟩⟩⟩)
def X_X0_homeOf : am_X := [((0, 18), (am_fget 0 2))]
def F_X0_homeOf : List am_V → am_H → Option am_O := am_fn T_X0_homeOf X_X0_homeOf 2 (some .int) am_rs0 [] [] 400 (rm_X0_homeOf.cells, rm_X0_homeOf.slots)
theorem wc_X0_homeOf : Cond.code y_X0_homeOf prog_2_method_5_code 2 (some .int) ∈ lw_good := w_2_204
set_option maxRecDepth 100000 in
theorem M_X0_homeOf {l : Launch} (hl : l.stackTraces = false) : am_M am_cl0 am_rs0 am_zs0 l y_X0_homeOf (Cond.code y_X0_homeOf prog_2_method_5_code 2 (some .int) :: lw_good) rm_X0_homeOf (F_X0_homeOf) := am_meth hl (by decide +kernel) (by decide +kernel) (am_okx fun p e s m args below meth c D tc A n0 ad0 C hm => List.forall_mem_cons.mpr ⟨op_X0_0_18 C, fun q hq => nomatch hq⟩)
def X_X0_usersOf : am_X := [((0, 15), (am_fget 0 1))]
def F_X0_usersOf : List am_V → am_H → Option am_O := am_fn T_X0_usersOf X_X0_usersOf 2 (some .int) am_rs0 [] [] 400 (rm_X0_usersOf.cells, rm_X0_usersOf.slots)
theorem wc_X0_usersOf : Cond.code y_X0_usersOf prog_2_method_6_code 2 (some .int) ∈ lw_good := w_2_215
set_option maxRecDepth 100000 in
theorem M_X0_usersOf {l : Launch} (hl : l.stackTraces = false) : am_M am_cl0 am_rs0 am_zs0 l y_X0_usersOf (Cond.code y_X0_usersOf prog_2_method_6_code 2 (some .int) :: lw_good) rm_X0_usersOf (F_X0_usersOf) := am_meth hl (by decide +kernel) (by decide +kernel) (am_okx fun p e s m args below meth c D tc A n0 ad0 C hm => List.forall_mem_cons.mpr ⟨op_X0_0_15 C, fun q hq => nomatch hq⟩)
def X_X0_howManyFree : am_X := []
def F_X0_howManyFree : List am_V → am_H → Option am_O := am_fn T_X0_howManyFree X_X0_howManyFree 3 (some .int) am_rs0 [] [(4, [0, 1, 2])] 400 (rm_X0_howManyFree.cells, rm_X0_howManyFree.slots)
theorem wc_X0_howManyFree : Cond.code y_X0_howManyFree prog_2_method_25_code 3 (some .int) ∈ lw_good := w_2_236
set_option maxRecDepth 100000 in
theorem M_X0_howManyFree {l : Launch} (hl : l.stackTraces = false) : am_M am_cl0 am_rs0 am_zs0 l y_X0_howManyFree (Cond.code y_X0_howManyFree prog_2_method_25_code 3 (some .int) :: lw_good) rm_X0_howManyFree (F_X0_howManyFree) := am_meth hl (by decide +kernel) (by decide +kernel) (am_okx fun p e s m args below meth c D tc A n0 ad0 C hm => fun q hq => nomatch hq)
set_option maxRecDepth 10000 in
theorem op_X0_2_50 (C : am_Cx p l R s m args meth c cc nL (c0 :: lw_good) RX0 D am_cl0 tc A am_rs0 am_zs0 hs ad0) (hl : l.stackTraces = false) (hR : rm_X0_howManyFree.frames + 1 ≤ R.frames ∧ 8 + (3 + 11) + rm_X0_howManyFree.locals ≤ R.locals) : am_op p l e R s m args below meth c D am_cl0 tc A nL n0 ad0 cc (2, 50) (am_fci none 1 F_X0_howManyFree rm_X0_howManyFree.cells rm_X0_howManyFree.slots) := am_fci_ok C (am_rn_S C (M_X0_howManyFree hl) rfl (am_gd wc_X0_howManyFree) (am_tl w_2_234) (am_tl w_2_235) (am_tl w_1_2) (by decide +kernel) hR)
def X_X0_freeFrames : am_X := [((0, 34), (am_fget 0 3)), ((2, 50), (am_fci none 1 F_X0_howManyFree rm_X0_howManyFree.cells rm_X0_howManyFree.slots))]
def F_X0_freeFrames : List am_V → am_H → Option am_O := am_fn T_X0_freeFrames X_X0_freeFrames 1 (some .int) am_rs0 [] [] 400 (rm_X0_freeFrames.cells, rm_X0_freeFrames.slots)
theorem wc_X0_freeFrames : Cond.code y_X0_freeFrames prog_2_method_7_code 1 (some .int) ∈ lw_good := w_2_233
set_option maxRecDepth 100000 in
theorem M_X0_freeFrames {l : Launch} (hl : l.stackTraces = false) : am_M am_cl0 am_rs0 am_zs0 l y_X0_freeFrames (Cond.code y_X0_freeFrames prog_2_method_7_code 1 (some .int) :: lw_good) rm_X0_freeFrames (F_X0_freeFrames) := am_meth hl (by decide +kernel) (by decide +kernel) (am_okx fun p e s m args below meth c D tc A n0 ad0 C hm => List.forall_mem_cons.mpr ⟨op_X0_0_34 C, List.forall_mem_cons.mpr ⟨op_X0_2_50 C hl ⟨by decide, by decide⟩, fun q hq => nomatch hq⟩⟩)
def X_X0_freeSlots : am_X := [((0, 41), (am_fget 0 5)), ((2, 50), (am_fci none 1 F_X0_howManyFree rm_X0_howManyFree.cells rm_X0_howManyFree.slots))]
def F_X0_freeSlots : List am_V → am_H → Option am_O := am_fn T_X0_freeSlots X_X0_freeSlots 1 (some .int) am_rs0 [] [] 400 (rm_X0_freeSlots.cells, rm_X0_freeSlots.slots)
theorem wc_X0_freeSlots : Cond.code y_X0_freeSlots prog_2_method_8_code 1 (some .int) ∈ lw_good := w_3_0
set_option maxRecDepth 100000 in
theorem M_X0_freeSlots {l : Launch} (hl : l.stackTraces = false) : am_M am_cl0 am_rs0 am_zs0 l y_X0_freeSlots (Cond.code y_X0_freeSlots prog_2_method_8_code 1 (some .int) :: lw_good) rm_X0_freeSlots (F_X0_freeSlots) := am_meth hl (by decide +kernel) (by decide +kernel) (am_okx fun p e s m args below meth c D tc A n0 ad0 C hm => List.forall_mem_cons.mpr ⟨op_X0_0_41 C, List.forall_mem_cons.mpr ⟨op_X0_2_50 C hl ⟨by decide, by decide⟩, fun q hq => nomatch hq⟩⟩)
def X_X0_markOf : am_X := [((0, 34), (am_fget 0 3)), ((0, 37), (am_fget 0 4))]
def F_X0_markOf : List am_V → am_H → Option am_O := am_fn T_X0_markOf X_X0_markOf 2 (some .int) am_rs0 [] [] 400 (rm_X0_markOf.cells, rm_X0_markOf.slots)
theorem wc_X0_markOf : Cond.code y_X0_markOf prog_2_method_9_code 2 (some .int) ∈ lw_good := w_3_4
set_option maxRecDepth 100000 in
theorem M_X0_markOf {l : Launch} (hl : l.stackTraces = false) : am_M am_cl0 am_rs0 am_zs0 l y_X0_markOf (Cond.code y_X0_markOf prog_2_method_9_code 2 (some .int) :: lw_good) rm_X0_markOf (F_X0_markOf) := am_meth hl (by decide +kernel) (by decide +kernel) (am_okx fun p e s m args below meth c D tc A n0 ad0 C hm => List.forall_mem_cons.mpr ⟨op_X0_0_34 C, List.forall_mem_cons.mpr ⟨op_X0_0_37 C, fun q hq => nomatch hq⟩⟩)
end AMP
end
section
section AMP
variable {p : Program} {l : Launch} {e : Env} {R : Room} {s : State} {m : MethodId} {args : Array Value} {below : List Frame} {meth : Method} {c : Code} {D : va_G} {tc : Nat → ClassId} {A : Nat → Prop} {nL n0 : Nat} {ad0 : am_A} {cc : ByteArray} {c0 : Cond} {hs : am_Hs} {rs : Nat → Option (Nat × (Nat → Int32))}
theorem op_X1_2_153 (C : am_Cx p l R s m args meth c cc nL (c0 :: lw_good) RX1 D am_cl0 tc A rs am_zs0 hs ad0) (hR : 1 ≤ R.frames ∧ 21 ≤ R.locals) : am_op p l e R s m args below meth c D am_cl0 tc A nL n0 ad0 cc (2, 153) am_fmn := am_fmn_ok C (am_tl w_1_30) (am_tl w_1_31) (am_tl w_1_3) (am_tl w_1_32) hR
theorem op_X1_2_158 (C : am_Cx p l R s m args meth c cc nL (c0 :: lw_good) RX1 D am_cl0 tc A rs am_zs0 hs ad0) (hR : 1 ≤ R.frames ∧ 21 ≤ R.locals) : am_op p l e R s m args below meth c D am_cl0 tc A nL n0 ad0 cc (2, 158) am_fmx := am_fmx_ok C (am_tl w_1_33) (am_tl w_1_34) (am_tl w_1_3) (am_tl w_1_35) hR
def X_X1_clamp : am_X := [((2, 153), am_fmn), ((2, 158), am_fmx)]
def F_X1_clamp : List am_V → am_H → Option am_O := am_fn T_X1_clamp X_X1_clamp 3 (some .int) am_rs0 [] [] 400 (rm_X1_clamp.cells, rm_X1_clamp.slots)
theorem wc_X1_clamp : Cond.code y_X1_clamp prog_1_method_15_code 3 (some .int) ∈ lw_good := w_1_29
set_option maxRecDepth 100000 in
theorem M_X1_clamp {l : Launch} (hl : l.stackTraces = false) : am_M am_cl0 am_rs0 am_zs0 l y_X1_clamp (Cond.code y_X1_clamp prog_1_method_15_code 3 (some .int) :: lw_good) rm_X1_clamp (F_X1_clamp) := am_meth hl (by decide +kernel) (by decide +kernel) (am_okx fun p e s m args below meth c D tc A n0 ad0 C hm => List.forall_mem_cons.mpr ⟨op_X1_2_153 C ⟨by decide, by decide⟩, List.forall_mem_cons.mpr ⟨op_X1_2_158 C ⟨by decide, by decide⟩, fun q hq => nomatch hq⟩⟩)
theorem op_X1_0_30 (C : am_Cx p l R s m args meth c cc nL (c0 :: lw_good) RX1 D am_cl0 tc A rs am_zs0 hs ad0) : am_op p l e R s m args below meth c D am_cl0 tc A nL n0 ad0 cc (0, 30) (am_fget 1 7) := am_fget_ok (j := 7) (N := 8) (T := TX1) C rfl (fun w hw => am_tl (hinX1 w hw)) (by decide) (am_tl w_1_125)
theorem op_X1_0_42 (C : am_Cx p l R s m args meth c cc nL (c0 :: lw_good) RX1 D am_cl0 tc A rs am_zs0 hs ad0) : am_op p l e R s m args below meth c D am_cl0 tc A nL n0 ad0 cc (0, 42) (am_fget 1 0) := am_fget_ok (j := 0) (N := 8) (T := TX1) C rfl (fun w hw => am_tl (hinX1 w hw)) (by decide) (am_tl w_1_118)
set_option maxRecDepth 10000 in
theorem op_X1_3_182 (C : am_Cx p l R s m args meth c cc nL (c0 :: lw_good) RX1 D am_cl0 tc A am_rs0 am_zs0 hs ad0) (hl : l.stackTraces = false) (hR : rm_X0_leave.frames + 1 ≤ R.frames ∧ 8 + (2 + 11) + rm_X0_leave.locals ≤ R.locals) : am_op p l e R s m args below meth c D am_cl0 tc A nL n0 ad0 cc (3, 182) (am_fcv (some 0) 2 F_X0_leave rm_X0_leave.cells rm_X0_leave.slots) := am_fcv_ok C (am_rn_V C rfl (M_X0_leave hl) rfl (am_gd wc_X0_leave) (am_tl w_1_96) (am_tl w_1_97) (am_tl w_1_98) (am_tl w_1_2) (by decide +kernel) hR)
def X_X1_leavePages : am_X := [((0, 30), (am_fget 1 7)), ((0, 42), (am_fget 1 0)), ((3, 182), (am_fcv (some 0) 2 F_X0_leave rm_X0_leave.cells rm_X0_leave.slots))]
def F_X1_leavePages : List am_V → am_H → Option am_O := am_fn T_X1_leavePages X_X1_leavePages 6 none am_rs0 [] [(3, [0, 1, 3, 4])] 400 (rm_X1_leavePages.cells, rm_X1_leavePages.slots)
theorem wc_X1_leavePages : Cond.code y_X1_leavePages prog_1_method_23_code 6 none ∈ lw_good := w_1_95
theorem sl_X1_leavePages : Cond.selects RX1 y_X1_leavePages y_X1_leavePages ∈ lw_good := am_inS (q := (y_X1_leavePages, 8)) (List.mem_append_left _ (List.mem_of_getElem? (i := 1) rfl))
set_option maxRecDepth 100000 in
theorem M_X1_leavePages {l : Launch} (hl : l.stackTraces = false) : am_M am_cl0 am_rs0 am_zs0 l y_X1_leavePages (Cond.code y_X1_leavePages prog_1_method_23_code 6 none :: lw_good) rm_X1_leavePages (F_X1_leavePages) := am_meth hl (by decide +kernel) (by decide +kernel) (am_okx fun p e s m args below meth c D tc A n0 ad0 C hm => List.forall_mem_cons.mpr ⟨op_X1_0_30 C, List.forall_mem_cons.mpr ⟨op_X1_0_42 C, List.forall_mem_cons.mpr ⟨op_X1_3_182 C hl ⟨by decide, by decide⟩, fun q hq => nomatch hq⟩⟩⟩)
set_option maxRecDepth 10000 in
theorem op_X1_3_179 (C : am_Cx p l R s m args meth c cc nL (c0 :: lw_good) RX1 D am_cl0 tc A am_rs0 am_zs0 hs ad0) (hl : l.stackTraces = false) (hR : rm_X0_newPage.frames + 1 ≤ R.frames ∧ 8 + (3 + 11) + rm_X0_newPage.locals ≤ R.locals) : am_op p l e R s m args below meth c D am_cl0 tc A nL n0 ad0 cc (3, 179) (am_fci (some 0) 1 F_X0_newPage rm_X0_newPage.cells rm_X0_newPage.slots) := am_fci_ok C (am_rn_V C rfl (M_X0_newPage hl) rfl (am_gd wc_X0_newPage) (am_tl w_1_114) (am_tl w_1_115) (am_tl w_1_116) (am_tl w_1_2) (by decide +kernel) hR)
def X_X1_addPages : am_X := [((0, 30), (am_fget 1 7)), ((0, 42), (am_fget 1 0)), ((3, 179), (am_fci (some 0) 1 F_X0_newPage rm_X0_newPage.cells rm_X0_newPage.slots))]
def F_X1_addPages : List am_V → am_H → Option am_O := am_fn T_X1_addPages X_X1_addPages 5 none am_rs0 [] [(3, [0, 1, 3, 4])] 400 (rm_X1_addPages.cells, rm_X1_addPages.slots)
theorem wc_X1_addPages : Cond.code y_X1_addPages prog_1_method_22_code 5 none ∈ lw_good := w_1_113
theorem sl_X1_addPages : Cond.selects RX1 y_X1_addPages y_X1_addPages ∈ lw_good := am_inS (q := (y_X1_addPages, 8)) (List.mem_append_left _ (List.mem_of_getElem? (i := 4) rfl))
set_option maxRecDepth 100000 in
theorem M_X1_addPages {l : Launch} (hl : l.stackTraces = false) : am_M am_cl0 am_rs0 am_zs0 l y_X1_addPages (Cond.code y_X1_addPages prog_1_method_22_code 5 none :: lw_good) rm_X1_addPages (F_X1_addPages) := am_meth hl (by decide +kernel) (by decide +kernel) (am_okx fun p e s m args below meth c D tc A n0 ad0 C hm => List.forall_mem_cons.mpr ⟨op_X1_0_30 C, List.forall_mem_cons.mpr ⟨op_X1_0_42 C, List.forall_mem_cons.mpr ⟨op_X1_3_179 C hl ⟨by decide, by decide⟩, fun q hq => nomatch hq⟩⟩⟩)
set_option maxRecDepth 10000 in
theorem op_X1_2_170 (C : am_Cx p l R s m args meth c cc nL (c0 :: lw_good) RX1 D am_cl0 tc A am_rs0 am_zs0 hs ad0) (hl : l.stackTraces = false) (hR : rm_X0_textPage.frames + 1 ≤ R.frames ∧ 8 + (2 + 11) + rm_X0_textPage.locals ≤ R.locals) : am_op p l e R s m args below meth c D am_cl0 tc A nL n0 ad0 cc (2, 170) (am_fci none 2 F_X0_textPage rm_X0_textPage.cells rm_X0_textPage.slots) := am_fci_ok C (am_rn_S C (M_X0_textPage hl) rfl (am_gd wc_X0_textPage) (am_tl w_1_85) (am_tl w_1_86) (am_tl w_1_2) (by decide +kernel) hR)
set_option maxRecDepth 10000 in
theorem op_X1_3_173 (C : am_Cx p l R s m args meth c cc nL (c0 :: lw_good) RX1 D am_cl0 tc A am_rs0 am_zs0 hs ad0) (hl : l.stackTraces = false) (hR : rm_X0_join.frames + 1 ≤ R.frames ∧ 8 + (2 + 11) + rm_X0_join.locals ≤ R.locals) : am_op p l e R s m args below meth c D am_cl0 tc A nL n0 ad0 cc (3, 173) (am_fcv (some 0) 2 F_X0_join rm_X0_join.cells rm_X0_join.slots) := am_fcv_ok C (am_rn_V C rfl (M_X0_join hl) rfl (am_gd wc_X0_join) (am_tl w_1_88) (am_tl w_1_89) (am_tl w_1_90) (am_tl w_1_2) (by decide +kernel) hR)
set_option maxRecDepth 10000 in
theorem op_X1_3_76 (C : am_Cx p l R s m args meth c cc nL (c0 :: lw_good) RX1 D am_cl0 tc A am_rs0 am_zs0 hs ad0) (hl : l.stackTraces = false) (hR : rm_X1_leavePages.frames + 1 ≤ R.frames ∧ 8 + (6 + 11) + rm_X1_leavePages.locals ≤ R.locals) : am_op p l e R s m args below meth c D am_cl0 tc A nL n0 ad0 cc (3, 76) (am_fcv (some 1) 4 F_X1_leavePages rm_X1_leavePages.cells rm_X1_leavePages.slots) := am_fcv_ok C (am_rn_V C rfl (M_X1_leavePages hl) rfl (am_gd wc_X1_leavePages) (am_tl w_1_92) (am_tl w_1_94) (am_tl (sl_X1_leavePages)) (am_tl w_1_1) (by decide +kernel) hR)
theorem op_X1_0_13 (C : am_Cx p l R s m args meth c cc nL (c0 :: lw_good) RX1 D am_cl0 tc A rs am_zs0 hs ad0) : am_op p l e R s m args below meth c D am_cl0 tc A nL n0 ad0 cc (0, 13) (am_fget 1 2) := am_fget_ok (j := 2) (N := 8) (T := TX1) C rfl (fun w hw => am_tl (hinX1 w hw)) (by decide) (am_tl w_1_120)
theorem op_X1_0_22 (C : am_Cx p l R s m args meth c cc nL (c0 :: lw_good) RX1 D am_cl0 tc A rs am_zs0 hs ad0) : am_op p l e R s m args below meth c D am_cl0 tc A nL n0 ad0 cc (0, 22) (am_fget 1 5) := am_fget_ok (j := 5) (N := 8) (T := TX1) C rfl (fun w hw => am_tl (hinX1 w hw)) (by decide) (am_tl w_1_123)
theorem op_X1_6_176 (C : am_Cx p l R s m args meth c cc nL (c0 :: lw_good) RX1 D am_cl0 tc A rs am_zs0 hs ad0) : am_op p l e R s m args below meth c D am_cl0 tc A nL n0 ad0 cc (6, 176) (am_fgs 0) := am_fgs_ok C (List.mem_of_getElem? (i := 0) rfl) (am_tl w_1_108)
theorem op_X1_0_25 (C : am_Cx p l R s m args meth c cc nL (c0 :: lw_good) RX1 D am_cl0 tc A rs am_zs0 hs ad0) : am_op p l e R s m args below meth c D am_cl0 tc A nL n0 ad0 cc (0, 25) (am_fget 1 6) := am_fget_ok (j := 6) (N := 8) (T := TX1) C rfl (fun w hw => am_tl (hinX1 w hw)) (by decide) (am_tl w_1_124)
set_option maxRecDepth 10000 in
theorem op_X1_3_93 (C : am_Cx p l R s m args meth c cc nL (c0 :: lw_good) RX1 D am_cl0 tc A am_rs0 am_zs0 hs ad0) (hl : l.stackTraces = false) (hR : rm_X1_addPages.frames + 1 ≤ R.frames ∧ 8 + (5 + 11) + rm_X1_addPages.locals ≤ R.locals) : am_op p l e R s m args below meth c D am_cl0 tc A nL n0 ad0 cc (3, 93) (am_fcv (some 1) 4 F_X1_addPages rm_X1_addPages.cells rm_X1_addPages.slots) := am_fcv_ok C (am_rn_V C rfl (M_X1_addPages hl) rfl (am_gd wc_X1_addPages) (am_tl w_1_110) (am_tl w_1_112) (am_tl (sl_X1_addPages)) (am_tl w_1_1) (by decide +kernel) hR)
def X_X1_startProgram : am_X := [((0, 42), (am_fget 1 0)), ((2, 170), (am_fci none 2 F_X0_textPage rm_X0_textPage.cells rm_X0_textPage.slots)), ((3, 173), (am_fcv (some 0) 2 F_X0_join rm_X0_join.cells rm_X0_join.slots)), ((3, 76), (am_fcv (some 1) 4 F_X1_leavePages rm_X1_leavePages.cells rm_X1_leavePages.slots)), ((0, 30), (am_fget 1 7)), ((0, 13), (am_fget 1 2)), ((0, 22), (am_fget 1 5)), ((6, 176), (am_fgs 0)), ((0, 25), (am_fget 1 6)), ((3, 93), (am_fcv (some 1) 4 F_X1_addPages rm_X1_addPages.cells rm_X1_addPages.slots))]
def F_X1_startProgram : List am_V → am_H → Option am_O := am_fn T_X1_startProgram X_X1_startProgram 4 none am_rs0 [] [(2, [0, 1, 2, 3]), (35, [0, 1, 2, 3])] 400 (rm_X1_startProgram.cells, rm_X1_startProgram.slots)
theorem wc_X1_startProgram : Cond.code y_X1_startProgram prog_1_method_21_code 4 none ∈ lw_good := w_1_84
theorem sl_X1_startProgram : Cond.selects RX1 y_X1_startProgram y_X1_startProgram ∈ lw_good := am_inS (q := (y_X1_startProgram, 8)) (List.mem_append_left _ (List.mem_of_getElem? (i := 0) rfl))
set_option maxRecDepth 100000 in
theorem M_X1_startProgram {l : Launch} (hl : l.stackTraces = false) : am_M am_cl0 am_rs0 am_zs0 l y_X1_startProgram (Cond.code y_X1_startProgram prog_1_method_21_code 4 none :: lw_good) rm_X1_startProgram (F_X1_startProgram) := am_meth hl (by decide +kernel) (by decide +kernel) (am_okx fun p e s m args below meth c D tc A n0 ad0 C hm => List.forall_mem_cons.mpr ⟨op_X1_0_42 C, List.forall_mem_cons.mpr ⟨op_X1_2_170 C hl ⟨by decide, by decide⟩, List.forall_mem_cons.mpr ⟨op_X1_3_173 C hl ⟨by decide, by decide⟩, List.forall_mem_cons.mpr ⟨op_X1_3_76 C hl ⟨by decide, by decide⟩, List.forall_mem_cons.mpr ⟨op_X1_0_30 C, List.forall_mem_cons.mpr ⟨op_X1_0_13 C, List.forall_mem_cons.mpr ⟨op_X1_0_22 C, List.forall_mem_cons.mpr ⟨op_X1_6_176 C, List.forall_mem_cons.mpr ⟨op_X1_0_25 C, List.forall_mem_cons.mpr ⟨op_X1_3_93 C hl ⟨by decide, by decide⟩, fun q hq => nomatch hq⟩⟩⟩⟩⟩⟩⟩⟩⟩⟩)
theorem op_X1_4_3 (C : am_Cx p l R s m args meth c cc nL (c0 :: lw_good) RX1 D am_cl0 tc A rs am_zs0 hs ad0) (hR : 1 ≤ R.frames ∧ 20 ≤ R.locals) : am_op p l e R s m args below meth c D am_cl0 tc A nL n0 ad0 cc (4, 3) am_fobj := am_fobj_ok C (am_tl w_1_20) (am_tl w_1_21) (am_tl w_1_22) hR
theorem op_X1_8_0 (C : am_Cx p l R s m args meth c cc nL (c0 :: lw_good) RX1 D am_cl0 tc A rs am_zs0 hs ad0) : am_op p l e R s m args below meth c D am_cl0 tc A nL n0 ad0 cc (8, 0) (am_fna 0) := am_fna_ok C (Or.inl ⟨rfl, am_tl w_1_78⟩)
theorem op_X1_1_9 (C : am_Cx p l R s m args meth c cc nL (c0 :: lw_good) RX1 D am_cl0 tc A rs am_zs0 hs ad0) (hm : meth.name = "<init>") : am_op p l e R s m args below meth c D am_cl0 tc A nL n0 ad0 cc (1, 9) (am_fput 1 1 1) := am_fput_ok (j := 1) (q := 1) (N := 8) (T := TX1) C tyX1 tyX1_ok nmX1 rfl (fun w hw => am_tl (hinX1 w hw)) (by decide) (am_tl w_1_119) (Or.inr ⟨rfl, hm, rfl⟩) (fun h => absurd h (by decide)) (fun _ => Or.inr ⟨_, rfl⟩)
theorem op_X1_1_13 (C : am_Cx p l R s m args meth c cc nL (c0 :: lw_good) RX1 D am_cl0 tc A rs am_zs0 hs ad0) (hm : meth.name = "<init>") : am_op p l e R s m args below meth c D am_cl0 tc A nL n0 ad0 cc (1, 13) (am_fput 1 2 1) := am_fput_ok (j := 2) (q := 1) (N := 8) (T := TX1) C tyX1 tyX1_ok nmX1 rfl (fun w hw => am_tl (hinX1 w hw)) (by decide) (am_tl w_1_120) (Or.inr ⟨rfl, hm, rfl⟩) (fun h => absurd h (by decide)) (fun _ => Or.inr ⟨_, rfl⟩)
theorem op_X1_1_16 (C : am_Cx p l R s m args meth c cc nL (c0 :: lw_good) RX1 D am_cl0 tc A rs am_zs0 hs ad0) (hm : meth.name = "<init>") : am_op p l e R s m args below meth c D am_cl0 tc A nL n0 ad0 cc (1, 16) (am_fput 1 3 1) := am_fput_ok (j := 3) (q := 1) (N := 8) (T := TX1) C tyX1 tyX1_ok nmX1 rfl (fun w hw => am_tl (hinX1 w hw)) (by decide) (am_tl w_1_121) (Or.inr ⟨rfl, hm, rfl⟩) (fun h => absurd h (by decide)) (fun _ => Or.inr ⟨_, rfl⟩)
theorem op_X1_1_19 (C : am_Cx p l R s m args meth c cc nL (c0 :: lw_good) RX1 D am_cl0 tc A rs am_zs0 hs ad0) (hm : meth.name = "<init>") : am_op p l e R s m args below meth c D am_cl0 tc A nL n0 ad0 cc (1, 19) (am_fput 1 4 1) := am_fput_ok (j := 4) (q := 1) (N := 8) (T := TX1) C tyX1 tyX1_ok nmX1 rfl (fun w hw => am_tl (hinX1 w hw)) (by decide) (am_tl w_1_122) (Or.inr ⟨rfl, hm, rfl⟩) (fun h => absurd h (by decide)) (fun _ => Or.inr ⟨_, rfl⟩)
theorem op_X1_1_22 (C : am_Cx p l R s m args meth c cc nL (c0 :: lw_good) RX1 D am_cl0 tc A rs am_zs0 hs ad0) (hm : meth.name = "<init>") : am_op p l e R s m args below meth c D am_cl0 tc A nL n0 ad0 cc (1, 22) (am_fput 1 5 1) := am_fput_ok (j := 5) (q := 1) (N := 8) (T := TX1) C tyX1 tyX1_ok nmX1 rfl (fun w hw => am_tl (hinX1 w hw)) (by decide) (am_tl w_1_123) (Or.inr ⟨rfl, hm, rfl⟩) (fun h => absurd h (by decide)) (fun _ => Or.inr ⟨_, rfl⟩)
theorem op_X1_1_25 (C : am_Cx p l R s m args meth c cc nL (c0 :: lw_good) RX1 D am_cl0 tc A rs am_zs0 hs ad0) (hm : meth.name = "<init>") : am_op p l e R s m args below meth c D am_cl0 tc A nL n0 ad0 cc (1, 25) (am_fput 1 6 1) := am_fput_ok (j := 6) (q := 1) (N := 8) (T := TX1) C tyX1 tyX1_ok nmX1 rfl (fun w hw => am_tl (hinX1 w hw)) (by decide) (am_tl w_1_124) (Or.inr ⟨rfl, hm, rfl⟩) (fun h => absurd h (by decide)) (fun _ => Or.inr ⟨_, rfl⟩)
theorem op_X1_7_28 (C : am_Cx p l R s m args meth c cc nL (c0 :: lw_good) RX1 D am_cl0 tc A rs am_zs0 hs ad0) : am_op p l e R s m args below meth c D am_cl0 tc A nL n0 ad0 cc (7, 28) am_fmna := am_fmna_ok C (am_tl w_1_23) (am_tl w_1_78)
theorem op_X1_1_30 (C : am_Cx p l R s m args meth c cc nL (c0 :: lw_good) RX1 D am_cl0 tc A rs am_zs0 hs ad0) (hm : meth.name = "<init>") : am_op p l e R s m args below meth c D am_cl0 tc A nL n0 ad0 cc (1, 30) (am_fput 1 7 1) := am_fput_ok (j := 7) (q := 1) (N := 8) (T := TX1) C tyX1 tyX1_ok nmX1 rfl (fun w hw => am_tl (hinX1 w hw)) (by decide) (am_tl w_1_125) (Or.inr ⟨rfl, hm, rfl⟩) (fun h => absurd h (by decide)) (fun _ => Or.inr ⟨_, rfl⟩)
theorem op_X1_5_33 (C : am_Cx p l R s m args meth c cc nL (c0 :: lw_good) RX1 D am_cl0 tc A rs am_zs0 hs ad0) : am_op p l e R s m args below meth c D am_cl0 tc A nL n0 ad0 cc (5, 33) (am_fnew 0 10 [.inl .null, .inl .null, .inl .null, .inl .null, .inl .null, .inl .null, .inl (.int 0), .inl (.int 0), .inl (.int 0), .inl (.int 0)]) := am_fnew_ok (N := 10) (T := TX0) C [.null, .null, .null, .null, .null, .null, .int 0, .int 0, .int 0, .int 0] (fun _ => rfl) rfl (fun w hw => am_tl (hinX0 w hw)) tyX0 tyX0_ok (am_tl w_1_25) (am_tl w_1_26) (am_tl w_1_2) (by decide +kernel)
set_option maxRecDepth 10000 in
theorem op_X1_2_35 (C : am_Cx p l R s m args meth c cc nL (c0 :: lw_good) RX1 D am_cl0 tc A am_rs0 am_zs0 hs ad0) (hl : l.stackTraces = false) (hR : rm_X1_clamp.frames + 1 ≤ R.frames ∧ 8 + (3 + 11) + rm_X1_clamp.locals ≤ R.locals) : am_op p l e R s m args below meth c D am_cl0 tc A nL n0 ad0 cc (2, 35) (am_fci none 3 F_X1_clamp rm_X1_clamp.cells rm_X1_clamp.slots) := am_fci_ok C (am_rn_S C (M_X1_clamp hl) rfl (am_gd wc_X1_clamp) (am_tl w_1_27) (am_tl w_1_28) (am_tl w_1_1) (by decide +kernel) hR)
set_option maxRecDepth 10000 in
theorem op_X1_4_39 (C : am_Cx p l R s m args meth c cc nL (c0 :: lw_good) RX1 D am_cl0 tc A am_rs0 am_zs0 hs ad0) (hl : l.stackTraces = false) (hR : rm_X0_init.frames + 1 ≤ R.frames ∧ 8 + (5 + 11) + rm_X0_init.locals ≤ R.locals) : am_op p l e R s m args below meth c D am_cl0 tc A nL n0 ad0 cc (4, 39) (am_fcv (some 0) 3 (am_nx F_X0_init) rm_X0_init.cells rm_X0_init.slots) := am_fcv_ok C (am_rn_I C (M_X0_init hl) rfl rfl (am_gd wc_X0_init) (am_tl w_1_36) (am_tl w_1_37) (am_tl w_1_2) (by decide +kernel) hR)
theorem op_X1_1_42 (C : am_Cx p l R s m args meth c cc nL (c0 :: lw_good) RX1 D am_cl0 tc A rs am_zs0 hs ad0) (hm : meth.name = "<init>") : am_op p l e R s m args below meth c D am_cl0 tc A nL n0 ad0 cc (1, 42) (am_fput 1 0 1) := am_fput_ok (j := 0) (q := 1) (N := 8) (T := TX1) C tyX1 tyX1_ok nmX1 rfl (fun w hw => am_tl (hinX1 w hw)) (by decide) (am_tl w_1_118) (Or.inr ⟨rfl, hm, rfl⟩) (fun h => absurd h (by decide)) (fun _ => Or.inl ⟨_, rfl⟩)
theorem op_X1_0_16 (C : am_Cx p l R s m args meth c cc nL (c0 :: lw_good) RX1 D am_cl0 tc A rs am_zs0 hs ad0) : am_op p l e R s m args below meth c D am_cl0 tc A nL n0 ad0 cc (0, 16) (am_fget 1 3) := am_fget_ok (j := 3) (N := 8) (T := TX1) C rfl (fun w hw => am_tl (hinX1 w hw)) (by decide) (am_tl w_1_121)
set_option maxRecDepth 10000 in
theorem op_X1_2_46 (C : am_Cx p l R s m args meth c cc nL (c0 :: lw_good) RX1 D am_cl0 tc A am_rs0 am_zs0 hs ad0) (hl : l.stackTraces = false) (hR : rm_J7_fill.frames + 1 ≤ R.frames ∧ 8 + (4 + 11) + rm_J7_fill.locals ≤ R.locals) : am_op p l e R s m args below meth c D am_cl0 tc A nL n0 ad0 cc (2, 46) (am_fcv none 2 F_J7_fill rm_J7_fill.cells rm_J7_fill.slots) := am_fcv_ok C (am_rn_S C (M_J7_fill hl) rfl (am_gd wc_J7_fill) (am_tl w_1_80) (am_tl w_1_41) (am_tl w_1_4) (by decide +kernel) hR)
theorem op_X1_0_9 (C : am_Cx p l R s m args meth c cc nL (c0 :: lw_good) RX1 D am_cl0 tc A rs am_zs0 hs ad0) : am_op p l e R s m args below meth c D am_cl0 tc A nL n0 ad0 cc (0, 9) (am_fget 1 1) := am_fget_ok (j := 1) (N := 8) (T := TX1) C rfl (fun w hw => am_tl (hinX1 w hw)) (by decide) (am_tl w_1_119)
set_option maxRecDepth 10000 in
theorem op_X1_3_52 (C : am_Cx p l R s m args meth c cc nL (c0 :: lw_good) RX1 D am_cl0 tc A am_rs0 am_zs0 hs ad0) (hl : l.stackTraces = false) (hR : rm_X1_startProgram.frames + 1 ≤ R.frames ∧ 8 + (4 + 11) + rm_X1_startProgram.locals ≤ R.locals) : am_op p l e R s m args below meth c D am_cl0 tc A nL n0 ad0 cc (3, 52) (am_fcv (some 1) 3 F_X1_startProgram rm_X1_startProgram.cells rm_X1_startProgram.slots) := am_fcv_ok C (am_rn_V C rfl (M_X1_startProgram hl) rfl (am_gd wc_X1_startProgram) (am_tl w_1_81) (am_tl w_1_83) (am_tl (sl_X1_startProgram)) (am_tl w_1_1) (by decide +kernel) hR)
def X_X1_init : am_X := [((4, 3), am_fobj), ((8, 0), (am_fna 0)), ((1, 9), (am_fput 1 1 1)), ((1, 13), (am_fput 1 2 1)), ((1, 16), (am_fput 1 3 1)), ((1, 19), (am_fput 1 4 1)), ((1, 22), (am_fput 1 5 1)), ((1, 25), (am_fput 1 6 1)), ((7, 28), am_fmna), ((1, 30), (am_fput 1 7 1)), ((5, 33), (am_fnew 0 10 [.inl .null, .inl .null, .inl .null, .inl .null, .inl .null, .inl .null, .inl (.int 0), .inl (.int 0), .inl (.int 0), .inl (.int 0)])), ((2, 35), (am_fci none 3 F_X1_clamp rm_X1_clamp.cells rm_X1_clamp.slots)), ((4, 39), (am_fcv (some 0) 3 (am_nx F_X0_init) rm_X0_init.cells rm_X0_init.slots)), ((1, 42), (am_fput 1 0 1)), ((0, 16), (am_fget 1 3)), ((2, 46), (am_fcv none 2 F_J7_fill rm_J7_fill.cells rm_J7_fill.slots)), ((0, 30), (am_fget 1 7)), ((0, 9), (am_fget 1 1)), ((3, 52), (am_fcv (some 1) 3 F_X1_startProgram rm_X1_startProgram.cells rm_X1_startProgram.slots))]
def F_X1_init : List am_V → am_H → Option am_O := am_fn T_X1_init X_X1_init 4 none am_rs0 [] [(99, [0, 3])] 400 (rm_X1_init.cells, rm_X1_init.slots)
theorem wc_X1_init : Cond.code y_X1_init prog_1_method_1_code 4 none ∈ lw_good := w_1_19
set_option maxRecDepth 100000 in
theorem M_X1_init {l : Launch} (hl : l.stackTraces = false) : am_M am_cl0 am_rs0 am_zs0 l y_X1_init (Cond.code y_X1_init prog_1_method_1_code 4 none :: lw_good) rm_X1_init (F_X1_init) := am_meth hl (by decide +kernel) (by decide +kernel) (am_okx fun p e s m args below meth c D tc A n0 ad0 C hm => List.forall_mem_cons.mpr ⟨op_X1_4_3 C ⟨by decide, by decide⟩, List.forall_mem_cons.mpr ⟨op_X1_8_0 C, List.forall_mem_cons.mpr ⟨op_X1_1_9 C hm, List.forall_mem_cons.mpr ⟨op_X1_1_13 C hm, List.forall_mem_cons.mpr ⟨op_X1_1_16 C hm, List.forall_mem_cons.mpr ⟨op_X1_1_19 C hm, List.forall_mem_cons.mpr ⟨op_X1_1_22 C hm, List.forall_mem_cons.mpr ⟨op_X1_1_25 C hm, List.forall_mem_cons.mpr ⟨op_X1_7_28 C, List.forall_mem_cons.mpr ⟨op_X1_1_30 C hm, List.forall_mem_cons.mpr ⟨op_X1_5_33 C, List.forall_mem_cons.mpr ⟨op_X1_2_35 C hl ⟨by decide, by decide⟩, List.forall_mem_cons.mpr ⟨op_X1_4_39 C hl ⟨by decide, by decide⟩, List.forall_mem_cons.mpr ⟨op_X1_1_42 C hm, List.forall_mem_cons.mpr ⟨op_X1_0_16 C, List.forall_mem_cons.mpr ⟨op_X1_2_46 C hl ⟨by decide, by decide⟩, List.forall_mem_cons.mpr ⟨op_X1_0_30 C, List.forall_mem_cons.mpr ⟨op_X1_0_9 C, List.forall_mem_cons.mpr ⟨op_X1_3_52 C hl ⟨by decide, by decide⟩, fun q hq => nomatch hq⟩⟩⟩⟩⟩⟩⟩⟩⟩⟩⟩⟩⟩⟩⟩⟩⟩⟩⟩)
set_option maxRecDepth 100000 in
theorem at_X1_161 : ∀ w ∈ vx_at0 RX1 163 (am_xn 0) am_sup, w ∈ (c0 :: lw_good) ∨ w ∈ am_zs0.2 := by
  rw [show vx_at0 RX1 163 (am_xn 0) am_sup = [(Jvm.Cond.initialized "java/lang/Throwable"), (Jvm.Cond.superclass "java/lang/Throwable" "java/lang/Object"), (Jvm.Cond.instanceMethod ({ cls := "java/lang/Throwable", name := "fillInStackTrace", desc := "()Ljava/lang/Throwable;" } : Jvm.MethodName)), (Jvm.Cond.codeSync ({ cls := "java/lang/Throwable", name := "fillInStackTrace", desc := "()Ljava/lang/Throwable;" } : Jvm.MethodName) prog_12_method_18_code (1 : Nat) (Option.some (Jvm.ClassFile.FieldType.object "java/lang/Throwable"))), (Jvm.Cond.instanceMethod ({ cls := "java/lang/Throwable", name := "fillInStackTrace", desc := "(I)Ljava/lang/Throwable;" } : Jvm.MethodName)), (Jvm.Cond.native ({ cls := "java/lang/Throwable", name := "fillInStackTrace", desc := "(I)Ljava/lang/Throwable;" } : Jvm.MethodName)), (Jvm.Cond.instanceMethod ({ cls := "java/lang/Throwable", name := "<init>", desc := "()V" } : Jvm.MethodName)), (Jvm.Cond.code ({ cls := "java/lang/Throwable", name := "<init>", desc := "()V" } : Jvm.MethodName) prog_12_method_1_code (1 : Nat) (Option.none : Option Jvm.ClassFile.FieldType)), (Jvm.Cond.instanceMethod ({ cls := "java/lang/Object", name := "<init>", desc := "()V" } : Jvm.MethodName)), (Jvm.Cond.code ({ cls := "java/lang/Object", name := "<init>", desc := "()V" } : Jvm.MethodName) object_method_1_code (1 : Nat) (Option.none : Option Jvm.ClassFile.FieldType)), (Jvm.Cond.methodLink "java/lang/Throwable" (1 : Nat) ({ cls := "java/lang/Object", name := "<init>", desc := "()V" } : Jvm.MethodName)), (Jvm.Cond.methodLink "java/lang/Throwable" (27 : Nat) ({ cls := "java/lang/Throwable", name := "fillInStackTrace", desc := "()Ljava/lang/Throwable;" } : Jvm.MethodName)), (Jvm.Cond.methodLink "java/lang/Throwable" (202 : Nat) ({ cls := "java/lang/Throwable", name := "fillInStackTrace", desc := "(I)Ljava/lang/Throwable;" } : Jvm.MethodName)), (Jvm.Cond.fieldLink "java/lang/Throwable" (7 : Nat) "java/lang/Throwable" "cause" "Ljava/lang/Throwable;"), (Jvm.Cond.lays "java/lang/Throwable" "java/lang/Throwable" "cause" "Ljava/lang/Throwable;"), (Jvm.Cond.fieldLink "java/lang/Throwable" (17 : Nat) "java/lang/Throwable" "stackTrace" "[Ljava/lang/StackTraceElement;"), (Jvm.Cond.lays "java/lang/Throwable" "java/lang/Throwable" "stackTrace" "[Ljava/lang/StackTraceElement;"), (Jvm.Cond.fieldLink "java/lang/Throwable" (24 : Nat) "java/lang/Throwable" "suppressedExceptions" "Ljava/util/List;"), (Jvm.Cond.lays "java/lang/Throwable" "java/lang/Throwable" "suppressedExceptions" "Ljava/util/List;"), (Jvm.Cond.fieldLink "java/lang/Throwable" (13 : Nat) "java/lang/Throwable" "UNASSIGNED_STACK" "[Ljava/lang/StackTraceElement;"), (Jvm.Cond.fieldLink "java/lang/Throwable" (20 : Nat) "java/lang/Throwable" "SUPPRESSED_SENTINEL" "Ljava/util/List;"), (Jvm.Cond.lays "java/lang/Throwable" "java/lang/Throwable" "detailMessage" "Ljava/lang/String;"), (Jvm.Cond.instanceMethod ({ cls := "java/lang/IllegalArgumentException", name := "<init>", desc := "()V" } : Jvm.MethodName)), (Jvm.Cond.code ({ cls := "java/lang/IllegalArgumentException", name := "<init>", desc := "()V" } : Jvm.MethodName) prog_6_method_1_code (1 : Nat) (Option.none : Option Jvm.ClassFile.FieldType)), (Jvm.Cond.methodLink "java/lang/IllegalArgumentException" (1 : Nat) ({ cls := "java/lang/RuntimeException", name := "<init>", desc := "()V" } : Jvm.MethodName)), (Jvm.Cond.instanceMethod ({ cls := "java/lang/RuntimeException", name := "<init>", desc := "()V" } : Jvm.MethodName)), (Jvm.Cond.declares ({ cls := "java/lang/RuntimeException", name := "<init>", desc := "()V" } : Jvm.MethodName)), (Jvm.Cond.instanceMethod ({ cls := "java/lang/RuntimeException", name := "<init>", desc := "()V" } : Jvm.MethodName)), (Jvm.Cond.code ({ cls := "java/lang/RuntimeException", name := "<init>", desc := "()V" } : Jvm.MethodName) prog_10_method_1_code (1 : Nat) (Option.none : Option Jvm.ClassFile.FieldType)), (Jvm.Cond.methodLink "java/lang/RuntimeException" (1 : Nat) ({ cls := "java/lang/Exception", name := "<init>", desc := "()V" } : Jvm.MethodName)), (Jvm.Cond.instanceMethod ({ cls := "java/lang/Exception", name := "<init>", desc := "()V" } : Jvm.MethodName)), (Jvm.Cond.declares ({ cls := "java/lang/Exception", name := "<init>", desc := "()V" } : Jvm.MethodName)), (Jvm.Cond.instanceMethod ({ cls := "java/lang/Exception", name := "<init>", desc := "()V" } : Jvm.MethodName)), (Jvm.Cond.code ({ cls := "java/lang/Exception", name := "<init>", desc := "()V" } : Jvm.MethodName) prog_5_method_1_code (1 : Nat) (Option.none : Option Jvm.ClassFile.FieldType)), (Jvm.Cond.methodLink "java/lang/Exception" (1 : Nat) ({ cls := "java/lang/Throwable", name := "<init>", desc := "()V" } : Jvm.MethodName)), (Jvm.Cond.instanceMethod ({ cls := "java/lang/Throwable", name := "<init>", desc := "()V" } : Jvm.MethodName)), (Jvm.Cond.declares ({ cls := "java/lang/Throwable", name := "<init>", desc := "()V" } : Jvm.MethodName)), (Jvm.Cond.methodLink "PagingKernel" (163 : Nat) ({ cls := "java/lang/IllegalArgumentException", name := "<init>", desc := "()V" } : Jvm.MethodName)), (Jvm.Cond.instantiable "java/lang/IllegalArgumentException" (6 : Nat)), (Jvm.Cond.castable "java/lang/IllegalArgumentException" "java/lang/IllegalArgumentException"), (Jvm.Cond.selects "java/lang/IllegalArgumentException" ({ cls := "java/lang/Throwable", name := "fillInStackTrace", desc := "(I)Ljava/lang/Throwable;" } : Jvm.MethodName) ({ cls := "java/lang/Throwable", name := "fillInStackTrace", desc := "(I)Ljava/lang/Throwable;" } : Jvm.MethodName)), (Jvm.Cond.selects "java/lang/IllegalArgumentException" ({ cls := "java/lang/Throwable", name := "fillInStackTrace", desc := "()Ljava/lang/Throwable;" } : Jvm.MethodName) ({ cls := "java/lang/Throwable", name := "fillInStackTrace", desc := "()Ljava/lang/Throwable;" } : Jvm.MethodName)), (Jvm.Cond.lays "java/lang/IllegalArgumentException" "java/lang/Throwable" "cause" "Ljava/lang/Throwable;"), (Jvm.Cond.lays "java/lang/IllegalArgumentException" "java/lang/Throwable" "stackTrace" "[Ljava/lang/StackTraceElement;"), (Jvm.Cond.lays "java/lang/IllegalArgumentException" "java/lang/Throwable" "suppressedExceptions" "Ljava/util/List;"), (Jvm.Cond.lays "java/lang/IllegalArgumentException" "java/lang/Throwable" "detailMessage" "Ljava/lang/String;"), (Jvm.Cond.fieldLink "java/lang/Throwable" (198 : Nat) "java/lang/Throwable" "backtrace" "Ljava/lang/Object;"), (Jvm.Cond.lays "java/lang/Throwable" "java/lang/Throwable" "backtrace" "Ljava/lang/Object;"), (Jvm.Cond.lays "java/lang/IllegalArgumentException" "java/lang/Throwable" "backtrace" "Ljava/lang/Object;")] by decide +kernel]
  exact List.forall_mem_cons.mpr ⟨Or.inl (am_tl w_1_6), List.forall_mem_cons.mpr ⟨Or.inl (am_tl w_1_184), List.forall_mem_cons.mpr ⟨Or.inl (am_tl w_1_193), List.forall_mem_cons.mpr ⟨Or.inl (am_tl w_1_199), List.forall_mem_cons.mpr ⟨Or.inl (am_tl w_1_202), List.forall_mem_cons.mpr ⟨Or.inl (am_tl w_1_204), List.forall_mem_cons.mpr ⟨Or.inl (am_tl w_1_185), List.forall_mem_cons.mpr ⟨Or.inl (am_tl w_1_186), List.forall_mem_cons.mpr ⟨Or.inl (am_tl w_1_21), List.forall_mem_cons.mpr ⟨Or.inl (am_tl w_1_22), List.forall_mem_cons.mpr ⟨Or.inl (am_tl w_1_187), List.forall_mem_cons.mpr ⟨Or.inl (am_tl w_1_192), List.forall_mem_cons.mpr ⟨Or.inl (am_tl w_1_200), List.forall_mem_cons.mpr ⟨Or.inl (am_tl w_1_216), List.forall_mem_cons.mpr ⟨Or.inl (am_tl w_1_174), List.forall_mem_cons.mpr ⟨Or.inl (am_tl w_1_217), List.forall_mem_cons.mpr ⟨Or.inl (am_tl w_1_176), List.forall_mem_cons.mpr ⟨Or.inl (am_tl w_1_218), List.forall_mem_cons.mpr ⟨Or.inl (am_tl w_1_178), List.forall_mem_cons.mpr ⟨Or.inl (am_tl w_1_188), List.forall_mem_cons.mpr ⟨Or.inl (am_tl w_1_190), List.forall_mem_cons.mpr ⟨Or.inl (am_tl w_1_180), List.forall_mem_cons.mpr ⟨Or.inl (am_tl w_1_206), List.forall_mem_cons.mpr ⟨Or.inl (am_tl w_1_207), List.forall_mem_cons.mpr ⟨Or.inl (am_tl w_1_208), List.forall_mem_cons.mpr ⟨Or.inl (am_tl w_1_209), List.forall_mem_cons.mpr ⟨Or.inr (List.mem_of_getElem? (i := 9) rfl), List.forall_mem_cons.mpr ⟨Or.inl (am_tl w_1_209), List.forall_mem_cons.mpr ⟨Or.inl (am_tl w_1_210), List.forall_mem_cons.mpr ⟨Or.inl (am_tl w_1_211), List.forall_mem_cons.mpr ⟨Or.inl (am_tl w_1_212), List.forall_mem_cons.mpr ⟨Or.inr (List.mem_of_getElem? (i := 11) rfl), List.forall_mem_cons.mpr ⟨Or.inl (am_tl w_1_212), List.forall_mem_cons.mpr ⟨Or.inl (am_tl w_1_213), List.forall_mem_cons.mpr ⟨Or.inl (am_tl w_1_214), List.forall_mem_cons.mpr ⟨Or.inl (am_tl w_1_185), List.forall_mem_cons.mpr ⟨Or.inr (List.mem_of_getElem? (i := 13) rfl), List.forall_mem_cons.mpr ⟨Or.inl (am_tl w_1_205), List.forall_mem_cons.mpr ⟨Or.inl (am_tl w_1_163), List.forall_mem_cons.mpr ⟨Or.inr (List.mem_of_getElem? (i := 0) rfl), List.forall_mem_cons.mpr ⟨Or.inl (am_tl w_1_171), List.forall_mem_cons.mpr ⟨Or.inl (am_tl w_1_172), List.forall_mem_cons.mpr ⟨Or.inl (am_tl w_1_173), List.forall_mem_cons.mpr ⟨Or.inl (am_tl w_1_175), List.forall_mem_cons.mpr ⟨Or.inl (am_tl w_1_177), List.forall_mem_cons.mpr ⟨Or.inl (am_tl w_1_179), List.forall_mem_cons.mpr ⟨Or.inl (am_tl w_1_183), List.forall_mem_cons.mpr ⟨Or.inl (am_tl w_1_182), List.forall_mem_cons.mpr ⟨Or.inl (am_tl w_1_181), fun q hq => nomatch hq⟩⟩⟩⟩⟩⟩⟩⟩⟩⟩⟩⟩⟩⟩⟩⟩⟩⟩⟩⟩⟩⟩⟩⟩⟩⟩⟩⟩⟩⟩⟩⟩⟩⟩⟩⟩⟩⟩⟩⟩⟩⟩⟩⟩⟩⟩⟩⟩⟩
set_option maxRecDepth 100000 in
theorem op_X1_5_161 (C : am_Cx p l R s m args meth c cc nL (c0 :: lw_good) RX1 D am_cl0 tc A rs am_zs0 [] ad0) (hR : 5 < R.frames ∧ 89 ≤ R.locals) : am_op p l e R s m args below meth c D am_cl0 tc A nL n0 ad0 cc (5, 161) (am_fthr 0 163) := am_fthr_ok C (by decide +kernel) (am_tl w_1_162) (am_tl w_1_9) at_X1_161 (by decide +kernel) hR
def X_X1_checkRange : am_X := [((5, 161), (am_fthr 0 163))]
def F_X1_checkRange : List am_V → am_H → Option am_O := am_fn T_X1_checkRange X_X1_checkRange 3 none am_rs0 [] [] 400 (rm_X1_checkRange.cells, rm_X1_checkRange.slots)
theorem wc_X1_checkRange : Cond.code y_X1_checkRange prog_1_method_16_code 3 none ∈ lw_good := w_1_161
set_option maxRecDepth 100000 in
theorem M_X1_checkRange {l : Launch} (hl : l.stackTraces = false) : am_M am_cl0 am_rs0 am_zs0 l y_X1_checkRange (Cond.code y_X1_checkRange prog_1_method_16_code 3 none :: lw_good) rm_X1_checkRange (F_X1_checkRange) := am_meth hl (by decide +kernel) (by decide +kernel) (am_okx fun p e s m args below meth c D tc A n0 ad0 C hm => List.forall_mem_cons.mpr ⟨op_X1_5_161 C ⟨by decide, by decide⟩, fun q hq => nomatch hq⟩)
set_option maxRecDepth 10000 in
theorem op_X1_2_72 (C : am_Cx p l R s m args meth c cc nL (c0 :: lw_good) RX1 D am_cl0 tc A am_rs0 am_zs0 hs ad0) (hl : l.stackTraces = false) (hR : rm_X1_checkRange.frames + 1 ≤ R.frames ∧ 8 + (3 + 11) + rm_X1_checkRange.locals ≤ R.locals) : am_op p l e R s m args below meth c D am_cl0 tc A nL n0 ad0 cc (2, 72) (am_fcv none 3 F_X1_checkRange rm_X1_checkRange.cells rm_X1_checkRange.slots) := am_fcv_ok C (am_rn_S C (M_X1_checkRange hl) rfl (am_gd wc_X1_checkRange) (am_tl w_1_159) (am_tl w_1_160) (am_tl w_1_1) (by decide +kernel) hR)
def X_X1_checkProcess : am_X := [((2, 72), (am_fcv none 3 F_X1_checkRange rm_X1_checkRange.cells rm_X1_checkRange.slots))]
def F_X1_checkProcess : List am_V → am_H → Option am_O := am_fn T_X1_checkProcess X_X1_checkProcess 1 none am_rs0 [] [] 400 (rm_X1_checkProcess.cells, rm_X1_checkProcess.slots)
theorem wc_X1_checkProcess : Cond.code y_X1_checkProcess prog_1_method_17_code 1 none ∈ lw_good := w_1_158
set_option maxRecDepth 100000 in
theorem M_X1_checkProcess {l : Launch} (hl : l.stackTraces = false) : am_M am_cl0 am_rs0 am_zs0 l y_X1_checkProcess (Cond.code y_X1_checkProcess prog_1_method_17_code 1 none :: lw_good) rm_X1_checkProcess (F_X1_checkProcess) := am_meth hl (by decide +kernel) (by decide +kernel) (am_okx fun p e s m args below meth c D tc A n0 ad0 C hm => List.forall_mem_cons.mpr ⟨op_X1_2_72 C hl ⟨by decide, by decide⟩, fun q hq => nomatch hq⟩)
set_option maxRecDepth 100000 in
theorem at_X1_164 : ∀ w ∈ vx_at0 RX1 166 (am_xn 1) am_sup, w ∈ (c0 :: lw_good) ∨ w ∈ am_zs0.2 := by
  rw [show vx_at0 RX1 166 (am_xn 1) am_sup = [(Jvm.Cond.initialized "java/lang/Throwable"), (Jvm.Cond.superclass "java/lang/Throwable" "java/lang/Object"), (Jvm.Cond.instanceMethod ({ cls := "java/lang/Throwable", name := "fillInStackTrace", desc := "()Ljava/lang/Throwable;" } : Jvm.MethodName)), (Jvm.Cond.codeSync ({ cls := "java/lang/Throwable", name := "fillInStackTrace", desc := "()Ljava/lang/Throwable;" } : Jvm.MethodName) prog_12_method_18_code (1 : Nat) (Option.some (Jvm.ClassFile.FieldType.object "java/lang/Throwable"))), (Jvm.Cond.instanceMethod ({ cls := "java/lang/Throwable", name := "fillInStackTrace", desc := "(I)Ljava/lang/Throwable;" } : Jvm.MethodName)), (Jvm.Cond.native ({ cls := "java/lang/Throwable", name := "fillInStackTrace", desc := "(I)Ljava/lang/Throwable;" } : Jvm.MethodName)), (Jvm.Cond.instanceMethod ({ cls := "java/lang/Throwable", name := "<init>", desc := "()V" } : Jvm.MethodName)), (Jvm.Cond.code ({ cls := "java/lang/Throwable", name := "<init>", desc := "()V" } : Jvm.MethodName) prog_12_method_1_code (1 : Nat) (Option.none : Option Jvm.ClassFile.FieldType)), (Jvm.Cond.instanceMethod ({ cls := "java/lang/Object", name := "<init>", desc := "()V" } : Jvm.MethodName)), (Jvm.Cond.code ({ cls := "java/lang/Object", name := "<init>", desc := "()V" } : Jvm.MethodName) object_method_1_code (1 : Nat) (Option.none : Option Jvm.ClassFile.FieldType)), (Jvm.Cond.methodLink "java/lang/Throwable" (1 : Nat) ({ cls := "java/lang/Object", name := "<init>", desc := "()V" } : Jvm.MethodName)), (Jvm.Cond.methodLink "java/lang/Throwable" (27 : Nat) ({ cls := "java/lang/Throwable", name := "fillInStackTrace", desc := "()Ljava/lang/Throwable;" } : Jvm.MethodName)), (Jvm.Cond.methodLink "java/lang/Throwable" (202 : Nat) ({ cls := "java/lang/Throwable", name := "fillInStackTrace", desc := "(I)Ljava/lang/Throwable;" } : Jvm.MethodName)), (Jvm.Cond.fieldLink "java/lang/Throwable" (7 : Nat) "java/lang/Throwable" "cause" "Ljava/lang/Throwable;"), (Jvm.Cond.lays "java/lang/Throwable" "java/lang/Throwable" "cause" "Ljava/lang/Throwable;"), (Jvm.Cond.fieldLink "java/lang/Throwable" (17 : Nat) "java/lang/Throwable" "stackTrace" "[Ljava/lang/StackTraceElement;"), (Jvm.Cond.lays "java/lang/Throwable" "java/lang/Throwable" "stackTrace" "[Ljava/lang/StackTraceElement;"), (Jvm.Cond.fieldLink "java/lang/Throwable" (24 : Nat) "java/lang/Throwable" "suppressedExceptions" "Ljava/util/List;"), (Jvm.Cond.lays "java/lang/Throwable" "java/lang/Throwable" "suppressedExceptions" "Ljava/util/List;"), (Jvm.Cond.fieldLink "java/lang/Throwable" (13 : Nat) "java/lang/Throwable" "UNASSIGNED_STACK" "[Ljava/lang/StackTraceElement;"), (Jvm.Cond.fieldLink "java/lang/Throwable" (20 : Nat) "java/lang/Throwable" "SUPPRESSED_SENTINEL" "Ljava/util/List;"), (Jvm.Cond.lays "java/lang/Throwable" "java/lang/Throwable" "detailMessage" "Ljava/lang/String;"), (Jvm.Cond.instanceMethod ({ cls := "java/util/NoSuchElementException", name := "<init>", desc := "()V" } : Jvm.MethodName)), (Jvm.Cond.code ({ cls := "java/util/NoSuchElementException", name := "<init>", desc := "()V" } : Jvm.MethodName) prog_15_method_1_code (1 : Nat) (Option.none : Option Jvm.ClassFile.FieldType)), (Jvm.Cond.methodLink "java/util/NoSuchElementException" (1 : Nat) ({ cls := "java/lang/RuntimeException", name := "<init>", desc := "()V" } : Jvm.MethodName)), (Jvm.Cond.instanceMethod ({ cls := "java/lang/RuntimeException", name := "<init>", desc := "()V" } : Jvm.MethodName)), (Jvm.Cond.declares ({ cls := "java/lang/RuntimeException", name := "<init>", desc := "()V" } : Jvm.MethodName)), (Jvm.Cond.instanceMethod ({ cls := "java/lang/RuntimeException", name := "<init>", desc := "()V" } : Jvm.MethodName)), (Jvm.Cond.code ({ cls := "java/lang/RuntimeException", name := "<init>", desc := "()V" } : Jvm.MethodName) prog_10_method_1_code (1 : Nat) (Option.none : Option Jvm.ClassFile.FieldType)), (Jvm.Cond.methodLink "java/lang/RuntimeException" (1 : Nat) ({ cls := "java/lang/Exception", name := "<init>", desc := "()V" } : Jvm.MethodName)), (Jvm.Cond.instanceMethod ({ cls := "java/lang/Exception", name := "<init>", desc := "()V" } : Jvm.MethodName)), (Jvm.Cond.declares ({ cls := "java/lang/Exception", name := "<init>", desc := "()V" } : Jvm.MethodName)), (Jvm.Cond.instanceMethod ({ cls := "java/lang/Exception", name := "<init>", desc := "()V" } : Jvm.MethodName)), (Jvm.Cond.code ({ cls := "java/lang/Exception", name := "<init>", desc := "()V" } : Jvm.MethodName) prog_5_method_1_code (1 : Nat) (Option.none : Option Jvm.ClassFile.FieldType)), (Jvm.Cond.methodLink "java/lang/Exception" (1 : Nat) ({ cls := "java/lang/Throwable", name := "<init>", desc := "()V" } : Jvm.MethodName)), (Jvm.Cond.instanceMethod ({ cls := "java/lang/Throwable", name := "<init>", desc := "()V" } : Jvm.MethodName)), (Jvm.Cond.declares ({ cls := "java/lang/Throwable", name := "<init>", desc := "()V" } : Jvm.MethodName)), (Jvm.Cond.methodLink "PagingKernel" (166 : Nat) ({ cls := "java/util/NoSuchElementException", name := "<init>", desc := "()V" } : Jvm.MethodName)), (Jvm.Cond.instantiable "java/util/NoSuchElementException" (6 : Nat)), (Jvm.Cond.castable "java/util/NoSuchElementException" "java/util/NoSuchElementException"), (Jvm.Cond.selects "java/util/NoSuchElementException" ({ cls := "java/lang/Throwable", name := "fillInStackTrace", desc := "(I)Ljava/lang/Throwable;" } : Jvm.MethodName) ({ cls := "java/lang/Throwable", name := "fillInStackTrace", desc := "(I)Ljava/lang/Throwable;" } : Jvm.MethodName)), (Jvm.Cond.selects "java/util/NoSuchElementException" ({ cls := "java/lang/Throwable", name := "fillInStackTrace", desc := "()Ljava/lang/Throwable;" } : Jvm.MethodName) ({ cls := "java/lang/Throwable", name := "fillInStackTrace", desc := "()Ljava/lang/Throwable;" } : Jvm.MethodName)), (Jvm.Cond.lays "java/util/NoSuchElementException" "java/lang/Throwable" "cause" "Ljava/lang/Throwable;"), (Jvm.Cond.lays "java/util/NoSuchElementException" "java/lang/Throwable" "stackTrace" "[Ljava/lang/StackTraceElement;"), (Jvm.Cond.lays "java/util/NoSuchElementException" "java/lang/Throwable" "suppressedExceptions" "Ljava/util/List;"), (Jvm.Cond.lays "java/util/NoSuchElementException" "java/lang/Throwable" "detailMessage" "Ljava/lang/String;"), (Jvm.Cond.fieldLink "java/lang/Throwable" (198 : Nat) "java/lang/Throwable" "backtrace" "Ljava/lang/Object;"), (Jvm.Cond.lays "java/lang/Throwable" "java/lang/Throwable" "backtrace" "Ljava/lang/Object;"), (Jvm.Cond.lays "java/util/NoSuchElementException" "java/lang/Throwable" "backtrace" "Ljava/lang/Object;")] by decide +kernel]
  exact List.forall_mem_cons.mpr ⟨Or.inl (am_tl w_1_6), List.forall_mem_cons.mpr ⟨Or.inl (am_tl w_1_184), List.forall_mem_cons.mpr ⟨Or.inl (am_tl w_1_193), List.forall_mem_cons.mpr ⟨Or.inl (am_tl w_1_199), List.forall_mem_cons.mpr ⟨Or.inl (am_tl w_1_202), List.forall_mem_cons.mpr ⟨Or.inl (am_tl w_1_204), List.forall_mem_cons.mpr ⟨Or.inl (am_tl w_1_185), List.forall_mem_cons.mpr ⟨Or.inl (am_tl w_1_186), List.forall_mem_cons.mpr ⟨Or.inl (am_tl w_1_21), List.forall_mem_cons.mpr ⟨Or.inl (am_tl w_1_22), List.forall_mem_cons.mpr ⟨Or.inl (am_tl w_1_187), List.forall_mem_cons.mpr ⟨Or.inl (am_tl w_1_192), List.forall_mem_cons.mpr ⟨Or.inl (am_tl w_1_200), List.forall_mem_cons.mpr ⟨Or.inl (am_tl w_1_216), List.forall_mem_cons.mpr ⟨Or.inl (am_tl w_1_174), List.forall_mem_cons.mpr ⟨Or.inl (am_tl w_1_217), List.forall_mem_cons.mpr ⟨Or.inl (am_tl w_1_176), List.forall_mem_cons.mpr ⟨Or.inl (am_tl w_1_218), List.forall_mem_cons.mpr ⟨Or.inl (am_tl w_1_178), List.forall_mem_cons.mpr ⟨Or.inl (am_tl w_1_188), List.forall_mem_cons.mpr ⟨Or.inl (am_tl w_1_190), List.forall_mem_cons.mpr ⟨Or.inl (am_tl w_1_180), List.forall_mem_cons.mpr ⟨Or.inl (am_tl w_2_1), List.forall_mem_cons.mpr ⟨Or.inl (am_tl w_2_2), List.forall_mem_cons.mpr ⟨Or.inl (am_tl w_2_3), List.forall_mem_cons.mpr ⟨Or.inl (am_tl w_1_209), List.forall_mem_cons.mpr ⟨Or.inr (List.mem_of_getElem? (i := 9) rfl), List.forall_mem_cons.mpr ⟨Or.inl (am_tl w_1_209), List.forall_mem_cons.mpr ⟨Or.inl (am_tl w_1_210), List.forall_mem_cons.mpr ⟨Or.inl (am_tl w_1_211), List.forall_mem_cons.mpr ⟨Or.inl (am_tl w_1_212), List.forall_mem_cons.mpr ⟨Or.inr (List.mem_of_getElem? (i := 11) rfl), List.forall_mem_cons.mpr ⟨Or.inl (am_tl w_1_212), List.forall_mem_cons.mpr ⟨Or.inl (am_tl w_1_213), List.forall_mem_cons.mpr ⟨Or.inl (am_tl w_1_214), List.forall_mem_cons.mpr ⟨Or.inl (am_tl w_1_185), List.forall_mem_cons.mpr ⟨Or.inr (List.mem_of_getElem? (i := 13) rfl), List.forall_mem_cons.mpr ⟨Or.inl (am_tl w_2_0), List.forall_mem_cons.mpr ⟨Or.inl (am_tl w_1_232), List.forall_mem_cons.mpr ⟨Or.inr (List.mem_of_getElem? (i := 1) rfl), List.forall_mem_cons.mpr ⟨Or.inl (am_tl w_1_234), List.forall_mem_cons.mpr ⟨Or.inl (am_tl w_1_198), List.forall_mem_cons.mpr ⟨Or.inl (am_tl w_1_235), List.forall_mem_cons.mpr ⟨Or.inl (am_tl w_1_236), List.forall_mem_cons.mpr ⟨Or.inl (am_tl w_1_237), List.forall_mem_cons.mpr ⟨Or.inl (am_tl w_1_238), List.forall_mem_cons.mpr ⟨Or.inl (am_tl w_1_183), List.forall_mem_cons.mpr ⟨Or.inl (am_tl w_1_182), List.forall_mem_cons.mpr ⟨Or.inl (am_tl w_1_239), fun q hq => nomatch hq⟩⟩⟩⟩⟩⟩⟩⟩⟩⟩⟩⟩⟩⟩⟩⟩⟩⟩⟩⟩⟩⟩⟩⟩⟩⟩⟩⟩⟩⟩⟩⟩⟩⟩⟩⟩⟩⟩⟩⟩⟩⟩⟩⟩⟩⟩⟩⟩⟩
set_option maxRecDepth 100000 in
theorem op_X1_5_164 (C : am_Cx p l R s m args meth c cc nL (c0 :: lw_good) RX1 D am_cl0 tc A rs am_zs0 [] ad0) (hR : 5 < R.frames ∧ 89 ≤ R.locals) : am_op p l e R s m args below meth c D am_cl0 tc A nL n0 ad0 cc (5, 164) (am_fthr 1 166) := am_fthr_ok C (by decide +kernel) (am_tl w_1_231) (am_tl w_1_10) at_X1_164 (by decide +kernel) hR
def X_X1_checkRunning : am_X := [((0, 9), (am_fget 1 1)), ((5, 164), (am_fthr 1 166))]
def F_X1_checkRunning : List am_V → am_H → Option am_O := am_fn T_X1_checkRunning X_X1_checkRunning 2 none am_rs0 [] [] 400 (rm_X1_checkRunning.cells, rm_X1_checkRunning.slots)
theorem wc_X1_checkRunning : Cond.code y_X1_checkRunning prog_1_method_18_code 2 none ∈ lw_good := w_1_230
theorem sl_X1_checkRunning : Cond.selects RX1 y_X1_checkRunning y_X1_checkRunning ∈ lw_good := am_inS (q := (y_X1_checkRunning, 8)) (List.mem_append_left _ (List.mem_of_getElem? (i := 6) rfl))
set_option maxRecDepth 100000 in
theorem M_X1_checkRunning {l : Launch} (hl : l.stackTraces = false) : am_M am_cl0 am_rs0 am_zs0 l y_X1_checkRunning (Cond.code y_X1_checkRunning prog_1_method_18_code 2 none :: lw_good) rm_X1_checkRunning (F_X1_checkRunning) := am_meth hl (by decide +kernel) (by decide +kernel) (am_okx fun p e s m args below meth c D tc A n0 ad0 C hm => List.forall_mem_cons.mpr ⟨op_X1_0_9 C, List.forall_mem_cons.mpr ⟨op_X1_5_164 C ⟨by decide, by decide⟩, fun q hq => nomatch hq⟩⟩)
def X_X1_leastFreeProcess : am_X := [((0, 9), (am_fget 1 1))]
def F_X1_leastFreeProcess : List am_V → am_H → Option am_O := am_fn T_X1_leastFreeProcess X_X1_leastFreeProcess 2 (some .int) am_rs0 [] [(2, [0, 1])] 400 (rm_X1_leastFreeProcess.cells, rm_X1_leastFreeProcess.slots)
theorem wc_X1_leastFreeProcess : Cond.code y_X1_leastFreeProcess prog_1_method_26_code 2 (some .int) ∈ lw_good := w_2_9
theorem sl_X1_leastFreeProcess : Cond.selects RX1 y_X1_leastFreeProcess y_X1_leastFreeProcess ∈ lw_good := am_inS (q := (y_X1_leastFreeProcess, 8)) (List.mem_append_left _ (List.mem_of_getElem? (i := 7) rfl))
set_option maxRecDepth 100000 in
theorem M_X1_leastFreeProcess {l : Launch} (hl : l.stackTraces = false) : am_M am_cl0 am_rs0 am_zs0 l y_X1_leastFreeProcess (Cond.code y_X1_leastFreeProcess prog_1_method_26_code 2 (some .int) :: lw_good) rm_X1_leastFreeProcess (F_X1_leastFreeProcess) := am_meth hl (by decide +kernel) (by decide +kernel) (am_okx fun p e s m args below meth c D tc A n0 ad0 C hm => List.forall_mem_cons.mpr ⟨op_X1_0_9 C, fun q hq => nomatch hq⟩)
def X_X1_sharePages : am_X := [((0, 30), (am_fget 1 7)), ((0, 42), (am_fget 1 0)), ((3, 173), (am_fcv (some 0) 2 F_X0_join rm_X0_join.cells rm_X0_join.slots))]
def F_X1_sharePages : List am_V → am_H → Option am_O := am_fn T_X1_sharePages X_X1_sharePages 5 none am_rs0 [] [(2, [0, 1, 2, 3])] 400 (rm_X1_sharePages.cells, rm_X1_sharePages.slots)
theorem wc_X1_sharePages : Cond.code y_X1_sharePages prog_1_method_24_code 5 none ∈ lw_good := w_2_28
theorem sl_X1_sharePages : Cond.selects RX1 y_X1_sharePages y_X1_sharePages ∈ lw_good := am_inS (q := (y_X1_sharePages, 8)) (List.mem_append_left _ (List.mem_of_getElem? (i := 8) rfl))
set_option maxRecDepth 100000 in
theorem M_X1_sharePages {l : Launch} (hl : l.stackTraces = false) : am_M am_cl0 am_rs0 am_zs0 l y_X1_sharePages (Cond.code y_X1_sharePages prog_1_method_24_code 5 none :: lw_good) rm_X1_sharePages (F_X1_sharePages) := am_meth hl (by decide +kernel) (by decide +kernel) (am_okx fun p e s m args below meth c D tc A n0 ad0 C hm => List.forall_mem_cons.mpr ⟨op_X1_0_30 C, List.forall_mem_cons.mpr ⟨op_X1_0_42 C, List.forall_mem_cons.mpr ⟨op_X1_3_173 C hl ⟨by decide, by decide⟩, fun q hq => nomatch hq⟩⟩⟩)
set_option maxRecDepth 10000 in
theorem op_X1_2_55 (C : am_Cx p l R s m args meth c cc nL (c0 :: lw_good) RX1 D am_cl0 tc A am_rs0 am_zs0 hs ad0) (hl : l.stackTraces = false) (hR : rm_X1_checkProcess.frames + 1 ≤ R.frames ∧ 8 + (1 + 11) + rm_X1_checkProcess.locals ≤ R.locals) : am_op p l e R s m args below meth c D am_cl0 tc A nL n0 ad0 cc (2, 55) (am_fcv none 1 F_X1_checkProcess rm_X1_checkProcess.cells rm_X1_checkProcess.slots) := am_fcv_ok C (am_rn_S C (M_X1_checkProcess hl) rfl (am_gd wc_X1_checkProcess) (am_tl w_1_156) (am_tl w_1_157) (am_tl w_1_1) (by decide +kernel) hR)
set_option maxRecDepth 10000 in
theorem op_X1_3_59 (C : am_Cx p l R s m args meth c cc nL (c0 :: lw_good) RX1 D am_cl0 tc A am_rs0 am_zs0 hs ad0) (hl : l.stackTraces = false) (hR : rm_X1_checkRunning.frames + 1 ≤ R.frames ∧ 8 + (2 + 11) + rm_X1_checkRunning.locals ≤ R.locals) : am_op p l e R s m args below meth c D am_cl0 tc A nL n0 ad0 cc (3, 59) (am_fcv (some 1) 2 F_X1_checkRunning rm_X1_checkRunning.cells rm_X1_checkRunning.slots) := am_fcv_ok C (am_rn_V C rfl (M_X1_checkRunning hl) rfl (am_gd wc_X1_checkRunning) (am_tl w_1_227) (am_tl w_1_229) (am_tl (sl_X1_checkRunning)) (am_tl w_1_1) (by decide +kernel) hR)
set_option maxRecDepth 10000 in
theorem op_X1_3_62 (C : am_Cx p l R s m args meth c cc nL (c0 :: lw_good) RX1 D am_cl0 tc A am_rs0 am_zs0 hs ad0) (hl : l.stackTraces = false) (hR : rm_X1_leastFreeProcess.frames + 1 ≤ R.frames ∧ 8 + (2 + 11) + rm_X1_leastFreeProcess.locals ≤ R.locals) : am_op p l e R s m args below meth c D am_cl0 tc A nL n0 ad0 cc (3, 62) (am_fci (some 1) 1 F_X1_leastFreeProcess rm_X1_leastFreeProcess.cells rm_X1_leastFreeProcess.slots) := am_fci_ok C (am_rn_V C rfl (M_X1_leastFreeProcess hl) rfl (am_gd wc_X1_leastFreeProcess) (am_tl w_2_6) (am_tl w_2_8) (am_tl (sl_X1_leastFreeProcess)) (am_tl w_1_1) (by decide +kernel) hR)
set_option maxRecDepth 100000 in
theorem at_X1_66 : ∀ w ∈ vx_at0 RX1 68 (am_xn 2) am_sup, w ∈ (c0 :: lw_good) ∨ w ∈ am_zs0.2 := by
  rw [show vx_at0 RX1 68 (am_xn 2) am_sup = [(Jvm.Cond.initialized "java/lang/Throwable"), (Jvm.Cond.superclass "java/lang/Throwable" "java/lang/Object"), (Jvm.Cond.instanceMethod ({ cls := "java/lang/Throwable", name := "fillInStackTrace", desc := "()Ljava/lang/Throwable;" } : Jvm.MethodName)), (Jvm.Cond.codeSync ({ cls := "java/lang/Throwable", name := "fillInStackTrace", desc := "()Ljava/lang/Throwable;" } : Jvm.MethodName) prog_12_method_18_code (1 : Nat) (Option.some (Jvm.ClassFile.FieldType.object "java/lang/Throwable"))), (Jvm.Cond.instanceMethod ({ cls := "java/lang/Throwable", name := "fillInStackTrace", desc := "(I)Ljava/lang/Throwable;" } : Jvm.MethodName)), (Jvm.Cond.native ({ cls := "java/lang/Throwable", name := "fillInStackTrace", desc := "(I)Ljava/lang/Throwable;" } : Jvm.MethodName)), (Jvm.Cond.instanceMethod ({ cls := "java/lang/Throwable", name := "<init>", desc := "()V" } : Jvm.MethodName)), (Jvm.Cond.code ({ cls := "java/lang/Throwable", name := "<init>", desc := "()V" } : Jvm.MethodName) prog_12_method_1_code (1 : Nat) (Option.none : Option Jvm.ClassFile.FieldType)), (Jvm.Cond.instanceMethod ({ cls := "java/lang/Object", name := "<init>", desc := "()V" } : Jvm.MethodName)), (Jvm.Cond.code ({ cls := "java/lang/Object", name := "<init>", desc := "()V" } : Jvm.MethodName) object_method_1_code (1 : Nat) (Option.none : Option Jvm.ClassFile.FieldType)), (Jvm.Cond.methodLink "java/lang/Throwable" (1 : Nat) ({ cls := "java/lang/Object", name := "<init>", desc := "()V" } : Jvm.MethodName)), (Jvm.Cond.methodLink "java/lang/Throwable" (27 : Nat) ({ cls := "java/lang/Throwable", name := "fillInStackTrace", desc := "()Ljava/lang/Throwable;" } : Jvm.MethodName)), (Jvm.Cond.methodLink "java/lang/Throwable" (202 : Nat) ({ cls := "java/lang/Throwable", name := "fillInStackTrace", desc := "(I)Ljava/lang/Throwable;" } : Jvm.MethodName)), (Jvm.Cond.fieldLink "java/lang/Throwable" (7 : Nat) "java/lang/Throwable" "cause" "Ljava/lang/Throwable;"), (Jvm.Cond.lays "java/lang/Throwable" "java/lang/Throwable" "cause" "Ljava/lang/Throwable;"), (Jvm.Cond.fieldLink "java/lang/Throwable" (17 : Nat) "java/lang/Throwable" "stackTrace" "[Ljava/lang/StackTraceElement;"), (Jvm.Cond.lays "java/lang/Throwable" "java/lang/Throwable" "stackTrace" "[Ljava/lang/StackTraceElement;"), (Jvm.Cond.fieldLink "java/lang/Throwable" (24 : Nat) "java/lang/Throwable" "suppressedExceptions" "Ljava/util/List;"), (Jvm.Cond.lays "java/lang/Throwable" "java/lang/Throwable" "suppressedExceptions" "Ljava/util/List;"), (Jvm.Cond.fieldLink "java/lang/Throwable" (13 : Nat) "java/lang/Throwable" "UNASSIGNED_STACK" "[Ljava/lang/StackTraceElement;"), (Jvm.Cond.fieldLink "java/lang/Throwable" (20 : Nat) "java/lang/Throwable" "SUPPRESSED_SENTINEL" "Ljava/util/List;"), (Jvm.Cond.lays "java/lang/Throwable" "java/lang/Throwable" "detailMessage" "Ljava/lang/String;"), (Jvm.Cond.instanceMethod ({ cls := "java/lang/UnsupportedOperationException", name := "<init>", desc := "()V" } : Jvm.MethodName)), (Jvm.Cond.code ({ cls := "java/lang/UnsupportedOperationException", name := "<init>", desc := "()V" } : Jvm.MethodName) prog_13_method_1_code (1 : Nat) (Option.none : Option Jvm.ClassFile.FieldType)), (Jvm.Cond.methodLink "java/lang/UnsupportedOperationException" (1 : Nat) ({ cls := "java/lang/RuntimeException", name := "<init>", desc := "()V" } : Jvm.MethodName)), (Jvm.Cond.instanceMethod ({ cls := "java/lang/RuntimeException", name := "<init>", desc := "()V" } : Jvm.MethodName)), (Jvm.Cond.declares ({ cls := "java/lang/RuntimeException", name := "<init>", desc := "()V" } : Jvm.MethodName)), (Jvm.Cond.instanceMethod ({ cls := "java/lang/RuntimeException", name := "<init>", desc := "()V" } : Jvm.MethodName)), (Jvm.Cond.code ({ cls := "java/lang/RuntimeException", name := "<init>", desc := "()V" } : Jvm.MethodName) prog_10_method_1_code (1 : Nat) (Option.none : Option Jvm.ClassFile.FieldType)), (Jvm.Cond.methodLink "java/lang/RuntimeException" (1 : Nat) ({ cls := "java/lang/Exception", name := "<init>", desc := "()V" } : Jvm.MethodName)), (Jvm.Cond.instanceMethod ({ cls := "java/lang/Exception", name := "<init>", desc := "()V" } : Jvm.MethodName)), (Jvm.Cond.declares ({ cls := "java/lang/Exception", name := "<init>", desc := "()V" } : Jvm.MethodName)), (Jvm.Cond.instanceMethod ({ cls := "java/lang/Exception", name := "<init>", desc := "()V" } : Jvm.MethodName)), (Jvm.Cond.code ({ cls := "java/lang/Exception", name := "<init>", desc := "()V" } : Jvm.MethodName) prog_5_method_1_code (1 : Nat) (Option.none : Option Jvm.ClassFile.FieldType)), (Jvm.Cond.methodLink "java/lang/Exception" (1 : Nat) ({ cls := "java/lang/Throwable", name := "<init>", desc := "()V" } : Jvm.MethodName)), (Jvm.Cond.instanceMethod ({ cls := "java/lang/Throwable", name := "<init>", desc := "()V" } : Jvm.MethodName)), (Jvm.Cond.declares ({ cls := "java/lang/Throwable", name := "<init>", desc := "()V" } : Jvm.MethodName)), (Jvm.Cond.methodLink "PagingKernel" (68 : Nat) ({ cls := "java/lang/UnsupportedOperationException", name := "<init>", desc := "()V" } : Jvm.MethodName)), (Jvm.Cond.instantiable "java/lang/UnsupportedOperationException" (6 : Nat)), (Jvm.Cond.castable "java/lang/UnsupportedOperationException" "java/lang/UnsupportedOperationException"), (Jvm.Cond.selects "java/lang/UnsupportedOperationException" ({ cls := "java/lang/Throwable", name := "fillInStackTrace", desc := "(I)Ljava/lang/Throwable;" } : Jvm.MethodName) ({ cls := "java/lang/Throwable", name := "fillInStackTrace", desc := "(I)Ljava/lang/Throwable;" } : Jvm.MethodName)), (Jvm.Cond.selects "java/lang/UnsupportedOperationException" ({ cls := "java/lang/Throwable", name := "fillInStackTrace", desc := "()Ljava/lang/Throwable;" } : Jvm.MethodName) ({ cls := "java/lang/Throwable", name := "fillInStackTrace", desc := "()Ljava/lang/Throwable;" } : Jvm.MethodName)), (Jvm.Cond.lays "java/lang/UnsupportedOperationException" "java/lang/Throwable" "cause" "Ljava/lang/Throwable;"), (Jvm.Cond.lays "java/lang/UnsupportedOperationException" "java/lang/Throwable" "stackTrace" "[Ljava/lang/StackTraceElement;"), (Jvm.Cond.lays "java/lang/UnsupportedOperationException" "java/lang/Throwable" "suppressedExceptions" "Ljava/util/List;"), (Jvm.Cond.lays "java/lang/UnsupportedOperationException" "java/lang/Throwable" "detailMessage" "Ljava/lang/String;"), (Jvm.Cond.fieldLink "java/lang/Throwable" (198 : Nat) "java/lang/Throwable" "backtrace" "Ljava/lang/Object;"), (Jvm.Cond.lays "java/lang/Throwable" "java/lang/Throwable" "backtrace" "Ljava/lang/Object;"), (Jvm.Cond.lays "java/lang/UnsupportedOperationException" "java/lang/Throwable" "backtrace" "Ljava/lang/Object;")] by decide +kernel]
  exact List.forall_mem_cons.mpr ⟨Or.inl (am_tl w_1_6), List.forall_mem_cons.mpr ⟨Or.inl (am_tl w_1_184), List.forall_mem_cons.mpr ⟨Or.inl (am_tl w_1_193), List.forall_mem_cons.mpr ⟨Or.inl (am_tl w_1_199), List.forall_mem_cons.mpr ⟨Or.inl (am_tl w_1_202), List.forall_mem_cons.mpr ⟨Or.inl (am_tl w_1_204), List.forall_mem_cons.mpr ⟨Or.inl (am_tl w_1_185), List.forall_mem_cons.mpr ⟨Or.inl (am_tl w_1_186), List.forall_mem_cons.mpr ⟨Or.inl (am_tl w_1_21), List.forall_mem_cons.mpr ⟨Or.inl (am_tl w_1_22), List.forall_mem_cons.mpr ⟨Or.inl (am_tl w_1_187), List.forall_mem_cons.mpr ⟨Or.inl (am_tl w_1_192), List.forall_mem_cons.mpr ⟨Or.inl (am_tl w_1_200), List.forall_mem_cons.mpr ⟨Or.inl (am_tl w_1_216), List.forall_mem_cons.mpr ⟨Or.inl (am_tl w_1_174), List.forall_mem_cons.mpr ⟨Or.inl (am_tl w_1_217), List.forall_mem_cons.mpr ⟨Or.inl (am_tl w_1_176), List.forall_mem_cons.mpr ⟨Or.inl (am_tl w_1_218), List.forall_mem_cons.mpr ⟨Or.inl (am_tl w_1_178), List.forall_mem_cons.mpr ⟨Or.inl (am_tl w_1_188), List.forall_mem_cons.mpr ⟨Or.inl (am_tl w_1_190), List.forall_mem_cons.mpr ⟨Or.inl (am_tl w_1_180), List.forall_mem_cons.mpr ⟨Or.inl (am_tl w_2_20), List.forall_mem_cons.mpr ⟨Or.inl (am_tl w_2_21), List.forall_mem_cons.mpr ⟨Or.inl (am_tl w_2_22), List.forall_mem_cons.mpr ⟨Or.inl (am_tl w_1_209), List.forall_mem_cons.mpr ⟨Or.inr (List.mem_of_getElem? (i := 9) rfl), List.forall_mem_cons.mpr ⟨Or.inl (am_tl w_1_209), List.forall_mem_cons.mpr ⟨Or.inl (am_tl w_1_210), List.forall_mem_cons.mpr ⟨Or.inl (am_tl w_1_211), List.forall_mem_cons.mpr ⟨Or.inl (am_tl w_1_212), List.forall_mem_cons.mpr ⟨Or.inr (List.mem_of_getElem? (i := 11) rfl), List.forall_mem_cons.mpr ⟨Or.inl (am_tl w_1_212), List.forall_mem_cons.mpr ⟨Or.inl (am_tl w_1_213), List.forall_mem_cons.mpr ⟨Or.inl (am_tl w_1_214), List.forall_mem_cons.mpr ⟨Or.inl (am_tl w_1_185), List.forall_mem_cons.mpr ⟨Or.inr (List.mem_of_getElem? (i := 13) rfl), List.forall_mem_cons.mpr ⟨Or.inl (am_tl w_2_19), List.forall_mem_cons.mpr ⟨Or.inl (am_tl w_2_11), List.forall_mem_cons.mpr ⟨Or.inr (List.mem_of_getElem? (i := 2) rfl), List.forall_mem_cons.mpr ⟨Or.inl (am_tl w_2_13), List.forall_mem_cons.mpr ⟨Or.inl (am_tl w_1_197), List.forall_mem_cons.mpr ⟨Or.inl (am_tl w_2_14), List.forall_mem_cons.mpr ⟨Or.inl (am_tl w_2_15), List.forall_mem_cons.mpr ⟨Or.inl (am_tl w_2_16), List.forall_mem_cons.mpr ⟨Or.inl (am_tl w_2_17), List.forall_mem_cons.mpr ⟨Or.inl (am_tl w_1_183), List.forall_mem_cons.mpr ⟨Or.inl (am_tl w_1_182), List.forall_mem_cons.mpr ⟨Or.inl (am_tl w_2_18), fun q hq => nomatch hq⟩⟩⟩⟩⟩⟩⟩⟩⟩⟩⟩⟩⟩⟩⟩⟩⟩⟩⟩⟩⟩⟩⟩⟩⟩⟩⟩⟩⟩⟩⟩⟩⟩⟩⟩⟩⟩⟩⟩⟩⟩⟩⟩⟩⟩⟩⟩⟩⟩
set_option maxRecDepth 100000 in
theorem op_X1_5_66 (C : am_Cx p l R s m args meth c cc nL (c0 :: lw_good) RX1 D am_cl0 tc A rs am_zs0 [] ad0) (hR : 5 < R.frames ∧ 89 ≤ R.locals) : am_op p l e R s m args below meth c D am_cl0 tc A nL n0 ad0 cc (5, 66) (am_fthr 2 68) := am_fthr_ok C (by decide +kernel) (am_tl w_2_10) (am_tl w_1_11) at_X1_66 (by decide +kernel) hR
set_option maxRecDepth 10000 in
theorem op_X1_3_69 (C : am_Cx p l R s m args meth c cc nL (c0 :: lw_good) RX1 D am_cl0 tc A am_rs0 am_zs0 hs ad0) (hl : l.stackTraces = false) (hR : rm_X1_sharePages.frames + 1 ≤ R.frames ∧ 8 + (5 + 11) + rm_X1_sharePages.locals ≤ R.locals) : am_op p l e R s m args below meth c D am_cl0 tc A nL n0 ad0 cc (3, 69) (am_fcv (some 1) 3 F_X1_sharePages rm_X1_sharePages.cells rm_X1_sharePages.slots) := am_fcv_ok C (am_rn_V C rfl (M_X1_sharePages hl) rfl (am_gd wc_X1_sharePages) (am_tl w_2_25) (am_tl w_2_27) (am_tl (sl_X1_sharePages)) (am_tl w_1_1) (by decide +kernel) hR)
def X_X1_fork : am_X := [((2, 55), (am_fcv none 1 F_X1_checkProcess rm_X1_checkProcess.cells rm_X1_checkProcess.slots)), ((3, 59), (am_fcv (some 1) 2 F_X1_checkRunning rm_X1_checkRunning.cells rm_X1_checkRunning.slots)), ((3, 62), (am_fci (some 1) 1 F_X1_leastFreeProcess rm_X1_leastFreeProcess.cells rm_X1_leastFreeProcess.slots)), ((5, 66), (am_fthr 2 68)), ((0, 9), (am_fget 1 1)), ((0, 16), (am_fget 1 3)), ((0, 13), (am_fget 1 2)), ((0, 22), (am_fget 1 5)), ((0, 25), (am_fget 1 6)), ((3, 69), (am_fcv (some 1) 3 F_X1_sharePages rm_X1_sharePages.cells rm_X1_sharePages.slots))]
def F_X1_fork : List am_V → am_H → Option am_O := am_fn T_X1_fork X_X1_fork 3 (some .int) am_rs0 [] [] 400 (rm_X1_fork.cells, rm_X1_fork.slots)
theorem wc_X1_fork : Cond.code y_X1_fork prog_1_method_2_code 3 (some .int) ∈ lw_good := w_1_155
set_option maxRecDepth 100000 in
theorem M_X1_fork {l : Launch} (hl : l.stackTraces = false) : am_M am_cl0 am_rs0 am_zs0 l y_X1_fork (Cond.code y_X1_fork prog_1_method_2_code 3 (some .int) :: lw_good) rm_X1_fork (F_X1_fork) := am_meth hl (by decide +kernel) (by decide +kernel) (am_okx fun p e s m args below meth c D tc A n0 ad0 C hm => List.forall_mem_cons.mpr ⟨op_X1_2_55 C hl ⟨by decide, by decide⟩, List.forall_mem_cons.mpr ⟨op_X1_3_59 C hl ⟨by decide, by decide⟩, List.forall_mem_cons.mpr ⟨op_X1_3_62 C hl ⟨by decide, by decide⟩, List.forall_mem_cons.mpr ⟨op_X1_5_66 C ⟨by decide, by decide⟩, List.forall_mem_cons.mpr ⟨op_X1_0_9 C, List.forall_mem_cons.mpr ⟨op_X1_0_16 C, List.forall_mem_cons.mpr ⟨op_X1_0_13 C, List.forall_mem_cons.mpr ⟨op_X1_0_22 C, List.forall_mem_cons.mpr ⟨op_X1_0_25 C, List.forall_mem_cons.mpr ⟨op_X1_3_69 C hl ⟨by decide, by decide⟩, fun q hq => nomatch hq⟩⟩⟩⟩⟩⟩⟩⟩⟩⟩)
def X_X1_exec : am_X := [((2, 55), (am_fcv none 1 F_X1_checkProcess rm_X1_checkProcess.cells rm_X1_checkProcess.slots)), ((2, 72), (am_fcv none 3 F_X1_checkRange rm_X1_checkRange.cells rm_X1_checkRange.slots)), ((3, 59), (am_fcv (some 1) 2 F_X1_checkRunning rm_X1_checkRunning.cells rm_X1_checkRunning.slots)), ((3, 52), (am_fcv (some 1) 3 F_X1_startProgram rm_X1_startProgram.cells rm_X1_startProgram.slots)), ((0, 22), (am_fget 1 5))]
def F_X1_exec : List am_V → am_H → Option am_O := am_fn T_X1_exec X_X1_exec 3 (some .int) am_rs0 [] [] 400 (rm_X1_exec.cells, rm_X1_exec.slots)
theorem wc_X1_exec : Cond.code y_X1_exec prog_1_method_3_code 3 (some .int) ∈ lw_good := w_2_35
set_option maxRecDepth 100000 in
theorem M_X1_exec {l : Launch} (hl : l.stackTraces = false) : am_M am_cl0 am_rs0 am_zs0 l y_X1_exec (Cond.code y_X1_exec prog_1_method_3_code 3 (some .int) :: lw_good) rm_X1_exec (F_X1_exec) := am_meth hl (by decide +kernel) (by decide +kernel) (am_okx fun p e s m args below meth c D tc A n0 ad0 C hm => List.forall_mem_cons.mpr ⟨op_X1_2_55 C hl ⟨by decide, by decide⟩, List.forall_mem_cons.mpr ⟨op_X1_2_72 C hl ⟨by decide, by decide⟩, List.forall_mem_cons.mpr ⟨op_X1_3_59 C hl ⟨by decide, by decide⟩, List.forall_mem_cons.mpr ⟨op_X1_3_52 C hl ⟨by decide, by decide⟩, List.forall_mem_cons.mpr ⟨op_X1_0_22 C, fun q hq => nomatch hq⟩⟩⟩⟩⟩)
def X_X1_orphansToFirst : am_X := [((0, 16), (am_fget 1 3))]
def F_X1_orphansToFirst : List am_V → am_H → Option am_O := am_fn T_X1_orphansToFirst X_X1_orphansToFirst 4 (some .int) am_rs0 [] [(4, [0, 1, 2, 3])] 400 (rm_X1_orphansToFirst.cells, rm_X1_orphansToFirst.slots)
theorem wc_X1_orphansToFirst : Cond.code y_X1_orphansToFirst prog_1_method_29_code 4 (some .int) ∈ lw_good := w_2_46
theorem sl_X1_orphansToFirst : Cond.selects RX1 y_X1_orphansToFirst y_X1_orphansToFirst ∈ lw_good := am_inS (q := (y_X1_orphansToFirst, 8)) (List.mem_append_left _ (List.mem_of_getElem? (i := 9) rfl))
set_option maxRecDepth 100000 in
theorem M_X1_orphansToFirst {l : Launch} (hl : l.stackTraces = false) : am_M am_cl0 am_rs0 am_zs0 l y_X1_orphansToFirst (Cond.code y_X1_orphansToFirst prog_1_method_29_code 4 (some .int) :: lw_good) rm_X1_orphansToFirst (F_X1_orphansToFirst) := am_meth hl (by decide +kernel) (by decide +kernel) (am_okx fun p e s m args below meth c D tc A n0 ad0 C hm => List.forall_mem_cons.mpr ⟨op_X1_0_16 C, fun q hq => nomatch hq⟩)
theorem op_X1_0_19 (C : am_Cx p l R s m args meth c cc nL (c0 :: lw_good) RX1 D am_cl0 tc A rs am_zs0 hs ad0) : am_op p l e R s m args below meth c D am_cl0 tc A nL n0 ad0 cc (0, 19) (am_fget 1 4) := am_fget_ok (j := 4) (N := 8) (T := TX1) C rfl (fun w hw => am_tl (hinX1 w hw)) (by decide) (am_tl w_1_122)
set_option maxRecDepth 10000 in
theorem op_X1_3_79 (C : am_Cx p l R s m args meth c cc nL (c0 :: lw_good) RX1 D am_cl0 tc A am_rs0 am_zs0 hs ad0) (hl : l.stackTraces = false) (hR : rm_X1_orphansToFirst.frames + 1 ≤ R.frames ∧ 8 + (4 + 11) + rm_X1_orphansToFirst.locals ≤ R.locals) : am_op p l e R s m args below meth c D am_cl0 tc A nL n0 ad0 cc (3, 79) (am_fci (some 1) 2 F_X1_orphansToFirst rm_X1_orphansToFirst.cells rm_X1_orphansToFirst.slots) := am_fci_ok C (am_rn_V C rfl (M_X1_orphansToFirst hl) rfl (am_gd wc_X1_orphansToFirst) (am_tl w_2_43) (am_tl w_2_45) (am_tl (sl_X1_orphansToFirst)) (am_tl w_1_1) (by decide +kernel) hR)
def X_X1_exit : am_X := [((2, 72), (am_fcv none 3 F_X1_checkRange rm_X1_checkRange.cells rm_X1_checkRange.slots)), ((3, 59), (am_fcv (some 1) 2 F_X1_checkRunning rm_X1_checkRunning.cells rm_X1_checkRunning.slots)), ((0, 9), (am_fget 1 1)), ((0, 19), (am_fget 1 4)), ((3, 76), (am_fcv (some 1) 4 F_X1_leavePages rm_X1_leavePages.cells rm_X1_leavePages.slots)), ((3, 79), (am_fci (some 1) 2 F_X1_orphansToFirst rm_X1_orphansToFirst.cells rm_X1_orphansToFirst.slots))]
def F_X1_exit : List am_V → am_H → Option am_O := am_fn T_X1_exit X_X1_exit 3 (some .int) am_rs0 [] [] 400 (rm_X1_exit.cells, rm_X1_exit.slots)
theorem wc_X1_exit : Cond.code y_X1_exit prog_1_method_4_code 3 (some .int) ∈ lw_good := w_2_42
set_option maxRecDepth 100000 in
theorem M_X1_exit {l : Launch} (hl : l.stackTraces = false) : am_M am_cl0 am_rs0 am_zs0 l y_X1_exit (Cond.code y_X1_exit prog_1_method_4_code 3 (some .int) :: lw_good) rm_X1_exit (F_X1_exit) := am_meth hl (by decide +kernel) (by decide +kernel) (am_okx fun p e s m args below meth c D tc A n0 ad0 C hm => List.forall_mem_cons.mpr ⟨op_X1_2_72 C hl ⟨by decide, by decide⟩, List.forall_mem_cons.mpr ⟨op_X1_3_59 C hl ⟨by decide, by decide⟩, List.forall_mem_cons.mpr ⟨op_X1_0_9 C, List.forall_mem_cons.mpr ⟨op_X1_0_19 C, List.forall_mem_cons.mpr ⟨op_X1_3_76 C hl ⟨by decide, by decide⟩, List.forall_mem_cons.mpr ⟨op_X1_3_79 C hl ⟨by decide, by decide⟩, fun q hq => nomatch hq⟩⟩⟩⟩⟩⟩)
def X_X1_isParent : am_X := [((0, 16), (am_fget 1 3))]
def F_X1_isParent : List am_V → am_H → Option am_O := am_fn T_X1_isParent X_X1_isParent 3 (some .boolean) am_rs0 [] [(2, [0, 1, 2])] 400 (rm_X1_isParent.cells, rm_X1_isParent.slots)
theorem wc_X1_isParent : Cond.code y_X1_isParent prog_1_method_27_code 3 (some .boolean) ∈ lw_good := w_2_58
theorem sl_X1_isParent : Cond.selects RX1 y_X1_isParent y_X1_isParent ∈ lw_good := am_inS (q := (y_X1_isParent, 8)) (List.mem_append_left _ (List.mem_of_getElem? (i := 10) rfl))
set_option maxRecDepth 100000 in
theorem M_X1_isParent {l : Launch} (hl : l.stackTraces = false) : am_M am_cl0 am_rs0 am_zs0 l y_X1_isParent (Cond.code y_X1_isParent prog_1_method_27_code 3 (some .boolean) :: lw_good) rm_X1_isParent (F_X1_isParent) := am_meth hl (by decide +kernel) (by decide +kernel) (am_okx fun p e s m args below meth c D tc A n0 ad0 C hm => List.forall_mem_cons.mpr ⟨op_X1_0_16 C, fun q hq => nomatch hq⟩)
def X_X1_leastDeadChild : am_X := [((0, 16), (am_fget 1 3)), ((0, 9), (am_fget 1 1))]
def F_X1_leastDeadChild : List am_V → am_H → Option am_O := am_fn T_X1_leastDeadChild X_X1_leastDeadChild 3 (some .int) am_rs0 [] [(2, [0, 1, 2])] 400 (rm_X1_leastDeadChild.cells, rm_X1_leastDeadChild.slots)
theorem wc_X1_leastDeadChild : Cond.code y_X1_leastDeadChild prog_1_method_28_code 3 (some .int) ∈ lw_good := w_2_62
theorem sl_X1_leastDeadChild : Cond.selects RX1 y_X1_leastDeadChild y_X1_leastDeadChild ∈ lw_good := am_inS (q := (y_X1_leastDeadChild, 8)) (List.mem_append_left _ (List.mem_of_getElem? (i := 11) rfl))
set_option maxRecDepth 100000 in
theorem M_X1_leastDeadChild {l : Launch} (hl : l.stackTraces = false) : am_M am_cl0 am_rs0 am_zs0 l y_X1_leastDeadChild (Cond.code y_X1_leastDeadChild prog_1_method_28_code 3 (some .int) :: lw_good) rm_X1_leastDeadChild (F_X1_leastDeadChild) := am_meth hl (by decide +kernel) (by decide +kernel) (am_okx fun p e s m args below meth c D tc A n0 ad0 C hm => List.forall_mem_cons.mpr ⟨op_X1_0_16 C, List.forall_mem_cons.mpr ⟨op_X1_0_9 C, fun q hq => nomatch hq⟩⟩)
set_option maxRecDepth 10000 in
theorem op_X1_3_83 (C : am_Cx p l R s m args meth c cc nL (c0 :: lw_good) RX1 D am_cl0 tc A am_rs0 am_zs0 hs ad0) (hl : l.stackTraces = false) (hR : rm_X1_isParent.frames + 1 ≤ R.frames ∧ 8 + (3 + 11) + rm_X1_isParent.locals ≤ R.locals) : am_op p l e R s m args below meth c D am_cl0 tc A nL n0 ad0 cc (3, 83) (am_fci (some 1) 2 F_X1_isParent rm_X1_isParent.cells rm_X1_isParent.slots) := am_fci_ok C (am_rn_V C rfl (M_X1_isParent hl) rfl (am_gd wc_X1_isParent) (am_tl w_2_55) (am_tl w_2_57) (am_tl (sl_X1_isParent)) (am_tl w_1_1) (by decide +kernel) hR)
set_option maxRecDepth 10000 in
theorem op_X1_3_87 (C : am_Cx p l R s m args meth c cc nL (c0 :: lw_good) RX1 D am_cl0 tc A am_rs0 am_zs0 hs ad0) (hl : l.stackTraces = false) (hR : rm_X1_leastDeadChild.frames + 1 ≤ R.frames ∧ 8 + (3 + 11) + rm_X1_leastDeadChild.locals ≤ R.locals) : am_op p l e R s m args below meth c D am_cl0 tc A nL n0 ad0 cc (3, 87) (am_fci (some 1) 2 F_X1_leastDeadChild rm_X1_leastDeadChild.cells rm_X1_leastDeadChild.slots) := am_fci_ok C (am_rn_V C rfl (M_X1_leastDeadChild hl) rfl (am_gd wc_X1_leastDeadChild) (am_tl w_2_59) (am_tl w_2_61) (am_tl (sl_X1_leastDeadChild)) (am_tl w_1_1) (by decide +kernel) hR)
set_option maxRecDepth 100000 in
theorem at_X1_90 : ∀ w ∈ vx_at0 RX1 92 (am_xn 3) am_sup, w ∈ (c0 :: lw_good) ∨ w ∈ am_zs0.2 := by
  rw [show vx_at0 RX1 92 (am_xn 3) am_sup = [(Jvm.Cond.initialized "java/lang/Throwable"), (Jvm.Cond.superclass "java/lang/Throwable" "java/lang/Object"), (Jvm.Cond.instanceMethod ({ cls := "java/lang/Throwable", name := "fillInStackTrace", desc := "()Ljava/lang/Throwable;" } : Jvm.MethodName)), (Jvm.Cond.codeSync ({ cls := "java/lang/Throwable", name := "fillInStackTrace", desc := "()Ljava/lang/Throwable;" } : Jvm.MethodName) prog_12_method_18_code (1 : Nat) (Option.some (Jvm.ClassFile.FieldType.object "java/lang/Throwable"))), (Jvm.Cond.instanceMethod ({ cls := "java/lang/Throwable", name := "fillInStackTrace", desc := "(I)Ljava/lang/Throwable;" } : Jvm.MethodName)), (Jvm.Cond.native ({ cls := "java/lang/Throwable", name := "fillInStackTrace", desc := "(I)Ljava/lang/Throwable;" } : Jvm.MethodName)), (Jvm.Cond.instanceMethod ({ cls := "java/lang/Throwable", name := "<init>", desc := "()V" } : Jvm.MethodName)), (Jvm.Cond.code ({ cls := "java/lang/Throwable", name := "<init>", desc := "()V" } : Jvm.MethodName) prog_12_method_1_code (1 : Nat) (Option.none : Option Jvm.ClassFile.FieldType)), (Jvm.Cond.instanceMethod ({ cls := "java/lang/Object", name := "<init>", desc := "()V" } : Jvm.MethodName)), (Jvm.Cond.code ({ cls := "java/lang/Object", name := "<init>", desc := "()V" } : Jvm.MethodName) object_method_1_code (1 : Nat) (Option.none : Option Jvm.ClassFile.FieldType)), (Jvm.Cond.methodLink "java/lang/Throwable" (1 : Nat) ({ cls := "java/lang/Object", name := "<init>", desc := "()V" } : Jvm.MethodName)), (Jvm.Cond.methodLink "java/lang/Throwable" (27 : Nat) ({ cls := "java/lang/Throwable", name := "fillInStackTrace", desc := "()Ljava/lang/Throwable;" } : Jvm.MethodName)), (Jvm.Cond.methodLink "java/lang/Throwable" (202 : Nat) ({ cls := "java/lang/Throwable", name := "fillInStackTrace", desc := "(I)Ljava/lang/Throwable;" } : Jvm.MethodName)), (Jvm.Cond.fieldLink "java/lang/Throwable" (7 : Nat) "java/lang/Throwable" "cause" "Ljava/lang/Throwable;"), (Jvm.Cond.lays "java/lang/Throwable" "java/lang/Throwable" "cause" "Ljava/lang/Throwable;"), (Jvm.Cond.fieldLink "java/lang/Throwable" (17 : Nat) "java/lang/Throwable" "stackTrace" "[Ljava/lang/StackTraceElement;"), (Jvm.Cond.lays "java/lang/Throwable" "java/lang/Throwable" "stackTrace" "[Ljava/lang/StackTraceElement;"), (Jvm.Cond.fieldLink "java/lang/Throwable" (24 : Nat) "java/lang/Throwable" "suppressedExceptions" "Ljava/util/List;"), (Jvm.Cond.lays "java/lang/Throwable" "java/lang/Throwable" "suppressedExceptions" "Ljava/util/List;"), (Jvm.Cond.fieldLink "java/lang/Throwable" (13 : Nat) "java/lang/Throwable" "UNASSIGNED_STACK" "[Ljava/lang/StackTraceElement;"), (Jvm.Cond.fieldLink "java/lang/Throwable" (20 : Nat) "java/lang/Throwable" "SUPPRESSED_SENTINEL" "Ljava/util/List;"), (Jvm.Cond.lays "java/lang/Throwable" "java/lang/Throwable" "detailMessage" "Ljava/lang/String;"), (Jvm.Cond.instanceMethod ({ cls := "java/lang/IllegalStateException", name := "<init>", desc := "()V" } : Jvm.MethodName)), (Jvm.Cond.code ({ cls := "java/lang/IllegalStateException", name := "<init>", desc := "()V" } : Jvm.MethodName) prog_7_method_1_code (1 : Nat) (Option.none : Option Jvm.ClassFile.FieldType)), (Jvm.Cond.methodLink "java/lang/IllegalStateException" (1 : Nat) ({ cls := "java/lang/RuntimeException", name := "<init>", desc := "()V" } : Jvm.MethodName)), (Jvm.Cond.instanceMethod ({ cls := "java/lang/RuntimeException", name := "<init>", desc := "()V" } : Jvm.MethodName)), (Jvm.Cond.declares ({ cls := "java/lang/RuntimeException", name := "<init>", desc := "()V" } : Jvm.MethodName)), (Jvm.Cond.instanceMethod ({ cls := "java/lang/RuntimeException", name := "<init>", desc := "()V" } : Jvm.MethodName)), (Jvm.Cond.code ({ cls := "java/lang/RuntimeException", name := "<init>", desc := "()V" } : Jvm.MethodName) prog_10_method_1_code (1 : Nat) (Option.none : Option Jvm.ClassFile.FieldType)), (Jvm.Cond.methodLink "java/lang/RuntimeException" (1 : Nat) ({ cls := "java/lang/Exception", name := "<init>", desc := "()V" } : Jvm.MethodName)), (Jvm.Cond.instanceMethod ({ cls := "java/lang/Exception", name := "<init>", desc := "()V" } : Jvm.MethodName)), (Jvm.Cond.declares ({ cls := "java/lang/Exception", name := "<init>", desc := "()V" } : Jvm.MethodName)), (Jvm.Cond.instanceMethod ({ cls := "java/lang/Exception", name := "<init>", desc := "()V" } : Jvm.MethodName)), (Jvm.Cond.code ({ cls := "java/lang/Exception", name := "<init>", desc := "()V" } : Jvm.MethodName) prog_5_method_1_code (1 : Nat) (Option.none : Option Jvm.ClassFile.FieldType)), (Jvm.Cond.methodLink "java/lang/Exception" (1 : Nat) ({ cls := "java/lang/Throwable", name := "<init>", desc := "()V" } : Jvm.MethodName)), (Jvm.Cond.instanceMethod ({ cls := "java/lang/Throwable", name := "<init>", desc := "()V" } : Jvm.MethodName)), (Jvm.Cond.declares ({ cls := "java/lang/Throwable", name := "<init>", desc := "()V" } : Jvm.MethodName)), (Jvm.Cond.methodLink "PagingKernel" (92 : Nat) ({ cls := "java/lang/IllegalStateException", name := "<init>", desc := "()V" } : Jvm.MethodName)), (Jvm.Cond.instantiable "java/lang/IllegalStateException" (6 : Nat)), (Jvm.Cond.castable "java/lang/IllegalStateException" "java/lang/IllegalStateException"), (Jvm.Cond.selects "java/lang/IllegalStateException" ({ cls := "java/lang/Throwable", name := "fillInStackTrace", desc := "(I)Ljava/lang/Throwable;" } : Jvm.MethodName) ({ cls := "java/lang/Throwable", name := "fillInStackTrace", desc := "(I)Ljava/lang/Throwable;" } : Jvm.MethodName)), (Jvm.Cond.selects "java/lang/IllegalStateException" ({ cls := "java/lang/Throwable", name := "fillInStackTrace", desc := "()Ljava/lang/Throwable;" } : Jvm.MethodName) ({ cls := "java/lang/Throwable", name := "fillInStackTrace", desc := "()Ljava/lang/Throwable;" } : Jvm.MethodName)), (Jvm.Cond.lays "java/lang/IllegalStateException" "java/lang/Throwable" "cause" "Ljava/lang/Throwable;"), (Jvm.Cond.lays "java/lang/IllegalStateException" "java/lang/Throwable" "stackTrace" "[Ljava/lang/StackTraceElement;"), (Jvm.Cond.lays "java/lang/IllegalStateException" "java/lang/Throwable" "suppressedExceptions" "Ljava/util/List;"), (Jvm.Cond.lays "java/lang/IllegalStateException" "java/lang/Throwable" "detailMessage" "Ljava/lang/String;"), (Jvm.Cond.fieldLink "java/lang/Throwable" (198 : Nat) "java/lang/Throwable" "backtrace" "Ljava/lang/Object;"), (Jvm.Cond.lays "java/lang/Throwable" "java/lang/Throwable" "backtrace" "Ljava/lang/Object;"), (Jvm.Cond.lays "java/lang/IllegalStateException" "java/lang/Throwable" "backtrace" "Ljava/lang/Object;")] by decide +kernel]
  exact List.forall_mem_cons.mpr ⟨Or.inl (am_tl w_1_6), List.forall_mem_cons.mpr ⟨Or.inl (am_tl w_1_184), List.forall_mem_cons.mpr ⟨Or.inl (am_tl w_1_193), List.forall_mem_cons.mpr ⟨Or.inl (am_tl w_1_199), List.forall_mem_cons.mpr ⟨Or.inl (am_tl w_1_202), List.forall_mem_cons.mpr ⟨Or.inl (am_tl w_1_204), List.forall_mem_cons.mpr ⟨Or.inl (am_tl w_1_185), List.forall_mem_cons.mpr ⟨Or.inl (am_tl w_1_186), List.forall_mem_cons.mpr ⟨Or.inl (am_tl w_1_21), List.forall_mem_cons.mpr ⟨Or.inl (am_tl w_1_22), List.forall_mem_cons.mpr ⟨Or.inl (am_tl w_1_187), List.forall_mem_cons.mpr ⟨Or.inl (am_tl w_1_192), List.forall_mem_cons.mpr ⟨Or.inl (am_tl w_1_200), List.forall_mem_cons.mpr ⟨Or.inl (am_tl w_1_216), List.forall_mem_cons.mpr ⟨Or.inl (am_tl w_1_174), List.forall_mem_cons.mpr ⟨Or.inl (am_tl w_1_217), List.forall_mem_cons.mpr ⟨Or.inl (am_tl w_1_176), List.forall_mem_cons.mpr ⟨Or.inl (am_tl w_1_218), List.forall_mem_cons.mpr ⟨Or.inl (am_tl w_1_178), List.forall_mem_cons.mpr ⟨Or.inl (am_tl w_1_188), List.forall_mem_cons.mpr ⟨Or.inl (am_tl w_1_190), List.forall_mem_cons.mpr ⟨Or.inl (am_tl w_1_180), List.forall_mem_cons.mpr ⟨Or.inl (am_tl w_2_73), List.forall_mem_cons.mpr ⟨Or.inl (am_tl w_2_74), List.forall_mem_cons.mpr ⟨Or.inl (am_tl w_2_75), List.forall_mem_cons.mpr ⟨Or.inl (am_tl w_1_209), List.forall_mem_cons.mpr ⟨Or.inr (List.mem_of_getElem? (i := 9) rfl), List.forall_mem_cons.mpr ⟨Or.inl (am_tl w_1_209), List.forall_mem_cons.mpr ⟨Or.inl (am_tl w_1_210), List.forall_mem_cons.mpr ⟨Or.inl (am_tl w_1_211), List.forall_mem_cons.mpr ⟨Or.inl (am_tl w_1_212), List.forall_mem_cons.mpr ⟨Or.inr (List.mem_of_getElem? (i := 11) rfl), List.forall_mem_cons.mpr ⟨Or.inl (am_tl w_1_212), List.forall_mem_cons.mpr ⟨Or.inl (am_tl w_1_213), List.forall_mem_cons.mpr ⟨Or.inl (am_tl w_1_214), List.forall_mem_cons.mpr ⟨Or.inl (am_tl w_1_185), List.forall_mem_cons.mpr ⟨Or.inr (List.mem_of_getElem? (i := 13) rfl), List.forall_mem_cons.mpr ⟨Or.inl (am_tl w_2_72), List.forall_mem_cons.mpr ⟨Or.inl (am_tl w_2_64), List.forall_mem_cons.mpr ⟨Or.inr (List.mem_of_getElem? (i := 3) rfl), List.forall_mem_cons.mpr ⟨Or.inl (am_tl w_2_66), List.forall_mem_cons.mpr ⟨Or.inl (am_tl w_1_195), List.forall_mem_cons.mpr ⟨Or.inl (am_tl w_2_67), List.forall_mem_cons.mpr ⟨Or.inl (am_tl w_2_68), List.forall_mem_cons.mpr ⟨Or.inl (am_tl w_2_69), List.forall_mem_cons.mpr ⟨Or.inl (am_tl w_2_70), List.forall_mem_cons.mpr ⟨Or.inl (am_tl w_1_183), List.forall_mem_cons.mpr ⟨Or.inl (am_tl w_1_182), List.forall_mem_cons.mpr ⟨Or.inl (am_tl w_2_71), fun q hq => nomatch hq⟩⟩⟩⟩⟩⟩⟩⟩⟩⟩⟩⟩⟩⟩⟩⟩⟩⟩⟩⟩⟩⟩⟩⟩⟩⟩⟩⟩⟩⟩⟩⟩⟩⟩⟩⟩⟩⟩⟩⟩⟩⟩⟩⟩⟩⟩⟩⟩⟩
set_option maxRecDepth 100000 in
theorem op_X1_5_90 (C : am_Cx p l R s m args meth c cc nL (c0 :: lw_good) RX1 D am_cl0 tc A rs am_zs0 [] ad0) (hR : 5 < R.frames ∧ 89 ≤ R.locals) : am_op p l e R s m args below meth c D am_cl0 tc A nL n0 ad0 cc (5, 90) (am_fthr 3 92) := am_fthr_ok C (by decide +kernel) (am_tl w_2_63) (am_tl w_1_12) at_X1_90 (by decide +kernel) hR
def X_X1_await : am_X := [((2, 55), (am_fcv none 1 F_X1_checkProcess rm_X1_checkProcess.cells rm_X1_checkProcess.slots)), ((3, 59), (am_fcv (some 1) 2 F_X1_checkRunning rm_X1_checkRunning.cells rm_X1_checkRunning.slots)), ((3, 83), (am_fci (some 1) 2 F_X1_isParent rm_X1_isParent.cells rm_X1_isParent.slots)), ((5, 66), (am_fthr 2 68)), ((3, 87), (am_fci (some 1) 2 F_X1_leastDeadChild rm_X1_leastDeadChild.cells rm_X1_leastDeadChild.slots)), ((5, 90), (am_fthr 3 92)), ((0, 9), (am_fget 1 1)), ((0, 16), (am_fget 1 3)), ((0, 19), (am_fget 1 4))]
def F_X1_await : List am_V → am_H → Option am_O := am_fn T_X1_await X_X1_await 3 (some .int) am_rs0 [] [] 400 (rm_X1_await.cells, rm_X1_await.slots)
theorem wc_X1_await : Cond.code y_X1_await prog_1_method_5_code 3 (some .int) ∈ lw_good := w_2_54
set_option maxRecDepth 100000 in
theorem M_X1_await {l : Launch} (hl : l.stackTraces = false) : am_M am_cl0 am_rs0 am_zs0 l y_X1_await (Cond.code y_X1_await prog_1_method_5_code 3 (some .int) :: lw_good) rm_X1_await (F_X1_await) := am_meth hl (by decide +kernel) (by decide +kernel) (am_okx fun p e s m args below meth c D tc A n0 ad0 C hm => List.forall_mem_cons.mpr ⟨op_X1_2_55 C hl ⟨by decide, by decide⟩, List.forall_mem_cons.mpr ⟨op_X1_3_59 C hl ⟨by decide, by decide⟩, List.forall_mem_cons.mpr ⟨op_X1_3_83 C hl ⟨by decide, by decide⟩, List.forall_mem_cons.mpr ⟨op_X1_5_66 C ⟨by decide, by decide⟩, List.forall_mem_cons.mpr ⟨op_X1_3_87 C hl ⟨by decide, by decide⟩, List.forall_mem_cons.mpr ⟨op_X1_5_90 C ⟨by decide, by decide⟩, List.forall_mem_cons.mpr ⟨op_X1_0_9 C, List.forall_mem_cons.mpr ⟨op_X1_0_16 C, List.forall_mem_cons.mpr ⟨op_X1_0_19 C, fun q hq => nomatch hq⟩⟩⟩⟩⟩⟩⟩⟩⟩)
def X_X1_grow : am_X := [((2, 55), (am_fcv none 1 F_X1_checkProcess rm_X1_checkProcess.cells rm_X1_checkProcess.slots)), ((2, 72), (am_fcv none 3 F_X1_checkRange rm_X1_checkRange.cells rm_X1_checkRange.slots)), ((3, 59), (am_fcv (some 1) 2 F_X1_checkRunning rm_X1_checkRunning.cells rm_X1_checkRunning.slots)), ((0, 22), (am_fget 1 5)), ((5, 66), (am_fthr 2 68)), ((3, 93), (am_fcv (some 1) 4 F_X1_addPages rm_X1_addPages.cells rm_X1_addPages.slots)), ((3, 76), (am_fcv (some 1) 4 F_X1_leavePages rm_X1_leavePages.cells rm_X1_leavePages.slots))]
def F_X1_grow : List am_V → am_H → Option am_O := am_fn T_X1_grow X_X1_grow 5 (some .int) am_rs0 [] [] 400 (rm_X1_grow.cells, rm_X1_grow.slots)
theorem wc_X1_grow : Cond.code y_X1_grow prog_1_method_6_code 5 (some .int) ∈ lw_good := w_2_84
set_option maxRecDepth 100000 in
theorem M_X1_grow {l : Launch} (hl : l.stackTraces = false) : am_M am_cl0 am_rs0 am_zs0 l y_X1_grow (Cond.code y_X1_grow prog_1_method_6_code 5 (some .int) :: lw_good) rm_X1_grow (F_X1_grow) := am_meth hl (by decide +kernel) (by decide +kernel) (am_okx fun p e s m args below meth c D tc A n0 ad0 C hm => List.forall_mem_cons.mpr ⟨op_X1_2_55 C hl ⟨by decide, by decide⟩, List.forall_mem_cons.mpr ⟨op_X1_2_72 C hl ⟨by decide, by decide⟩, List.forall_mem_cons.mpr ⟨op_X1_3_59 C hl ⟨by decide, by decide⟩, List.forall_mem_cons.mpr ⟨op_X1_0_22 C, List.forall_mem_cons.mpr ⟨op_X1_5_66 C ⟨by decide, by decide⟩, List.forall_mem_cons.mpr ⟨op_X1_3_93 C hl ⟨by decide, by decide⟩, List.forall_mem_cons.mpr ⟨op_X1_3_76 C hl ⟨by decide, by decide⟩, fun q hq => nomatch hq⟩⟩⟩⟩⟩⟩⟩)
def X_X1_checkAddress : am_X := [((2, 55), (am_fcv none 1 F_X1_checkProcess rm_X1_checkProcess.cells rm_X1_checkProcess.slots)), ((2, 72), (am_fcv none 3 F_X1_checkRange rm_X1_checkRange.cells rm_X1_checkRange.slots)), ((3, 59), (am_fcv (some 1) 2 F_X1_checkRunning rm_X1_checkRunning.cells rm_X1_checkRunning.slots))]
def F_X1_checkAddress : List am_V → am_H → Option am_O := am_fn T_X1_checkAddress X_X1_checkAddress 3 none am_rs0 [] [] 400 (rm_X1_checkAddress.cells, rm_X1_checkAddress.slots)
theorem wc_X1_checkAddress : Cond.code y_X1_checkAddress prog_1_method_19_code 3 none ∈ lw_good := w_2_96
theorem sl_X1_checkAddress : Cond.selects RX1 y_X1_checkAddress y_X1_checkAddress ∈ lw_good := am_inS (q := (y_X1_checkAddress, 8)) (List.mem_append_left _ (List.mem_of_getElem? (i := 12) rfl))
set_option maxRecDepth 100000 in
theorem M_X1_checkAddress {l : Launch} (hl : l.stackTraces = false) : am_M am_cl0 am_rs0 am_zs0 l y_X1_checkAddress (Cond.code y_X1_checkAddress prog_1_method_19_code 3 none :: lw_good) rm_X1_checkAddress (F_X1_checkAddress) := am_meth hl (by decide +kernel) (by decide +kernel) (am_okx fun p e s m args below meth c D tc A n0 ad0 C hm => List.forall_mem_cons.mpr ⟨op_X1_2_55 C hl ⟨by decide, by decide⟩, List.forall_mem_cons.mpr ⟨op_X1_2_72 C hl ⟨by decide, by decide⟩, List.forall_mem_cons.mpr ⟨op_X1_3_59 C hl ⟨by decide, by decide⟩, fun q hq => nomatch hq⟩⟩⟩)
def X_X1_growStackTo : am_X := [((0, 25), (am_fget 1 6)), ((3, 93), (am_fcv (some 1) 4 F_X1_addPages rm_X1_addPages.cells rm_X1_addPages.slots))]
def F_X1_growStackTo : List am_V → am_H → Option am_O := am_fn T_X1_growStackTo X_X1_growStackTo 4 none am_rs0 [] [] 400 (rm_X1_growStackTo.cells, rm_X1_growStackTo.slots)
theorem wc_X1_growStackTo : Cond.code y_X1_growStackTo prog_1_method_25_code 4 none ∈ lw_good := w_2_100
theorem sl_X1_growStackTo : Cond.selects RX1 y_X1_growStackTo y_X1_growStackTo ∈ lw_good := am_inS (q := (y_X1_growStackTo, 8)) (List.mem_append_left _ (List.mem_of_getElem? (i := 13) rfl))
set_option maxRecDepth 100000 in
theorem M_X1_growStackTo {l : Launch} (hl : l.stackTraces = false) : am_M am_cl0 am_rs0 am_zs0 l y_X1_growStackTo (Cond.code y_X1_growStackTo prog_1_method_25_code 4 none :: lw_good) rm_X1_growStackTo (F_X1_growStackTo) := am_meth hl (by decide +kernel) (by decide +kernel) (am_okx fun p e s m args below meth c D tc A n0 ad0 C hm => List.forall_mem_cons.mpr ⟨op_X1_0_25 C, List.forall_mem_cons.mpr ⟨op_X1_3_93 C hl ⟨by decide, by decide⟩, fun q hq => nomatch hq⟩⟩)
set_option maxRecDepth 100000 in
theorem at_X1_167 : ∀ w ∈ vx_at0 RX1 169 (am_xn 4) am_sup, w ∈ (c0 :: lw_good) ∨ w ∈ am_zs0.2 := by
  rw [show vx_at0 RX1 169 (am_xn 4) am_sup = [(Jvm.Cond.initialized "java/lang/Throwable"), (Jvm.Cond.superclass "java/lang/Throwable" "java/lang/Object"), (Jvm.Cond.instanceMethod ({ cls := "java/lang/Throwable", name := "fillInStackTrace", desc := "()Ljava/lang/Throwable;" } : Jvm.MethodName)), (Jvm.Cond.codeSync ({ cls := "java/lang/Throwable", name := "fillInStackTrace", desc := "()Ljava/lang/Throwable;" } : Jvm.MethodName) prog_12_method_18_code (1 : Nat) (Option.some (Jvm.ClassFile.FieldType.object "java/lang/Throwable"))), (Jvm.Cond.instanceMethod ({ cls := "java/lang/Throwable", name := "fillInStackTrace", desc := "(I)Ljava/lang/Throwable;" } : Jvm.MethodName)), (Jvm.Cond.native ({ cls := "java/lang/Throwable", name := "fillInStackTrace", desc := "(I)Ljava/lang/Throwable;" } : Jvm.MethodName)), (Jvm.Cond.instanceMethod ({ cls := "java/lang/Throwable", name := "<init>", desc := "()V" } : Jvm.MethodName)), (Jvm.Cond.code ({ cls := "java/lang/Throwable", name := "<init>", desc := "()V" } : Jvm.MethodName) prog_12_method_1_code (1 : Nat) (Option.none : Option Jvm.ClassFile.FieldType)), (Jvm.Cond.instanceMethod ({ cls := "java/lang/Object", name := "<init>", desc := "()V" } : Jvm.MethodName)), (Jvm.Cond.code ({ cls := "java/lang/Object", name := "<init>", desc := "()V" } : Jvm.MethodName) object_method_1_code (1 : Nat) (Option.none : Option Jvm.ClassFile.FieldType)), (Jvm.Cond.methodLink "java/lang/Throwable" (1 : Nat) ({ cls := "java/lang/Object", name := "<init>", desc := "()V" } : Jvm.MethodName)), (Jvm.Cond.methodLink "java/lang/Throwable" (27 : Nat) ({ cls := "java/lang/Throwable", name := "fillInStackTrace", desc := "()Ljava/lang/Throwable;" } : Jvm.MethodName)), (Jvm.Cond.methodLink "java/lang/Throwable" (202 : Nat) ({ cls := "java/lang/Throwable", name := "fillInStackTrace", desc := "(I)Ljava/lang/Throwable;" } : Jvm.MethodName)), (Jvm.Cond.fieldLink "java/lang/Throwable" (7 : Nat) "java/lang/Throwable" "cause" "Ljava/lang/Throwable;"), (Jvm.Cond.lays "java/lang/Throwable" "java/lang/Throwable" "cause" "Ljava/lang/Throwable;"), (Jvm.Cond.fieldLink "java/lang/Throwable" (17 : Nat) "java/lang/Throwable" "stackTrace" "[Ljava/lang/StackTraceElement;"), (Jvm.Cond.lays "java/lang/Throwable" "java/lang/Throwable" "stackTrace" "[Ljava/lang/StackTraceElement;"), (Jvm.Cond.fieldLink "java/lang/Throwable" (24 : Nat) "java/lang/Throwable" "suppressedExceptions" "Ljava/util/List;"), (Jvm.Cond.lays "java/lang/Throwable" "java/lang/Throwable" "suppressedExceptions" "Ljava/util/List;"), (Jvm.Cond.fieldLink "java/lang/Throwable" (13 : Nat) "java/lang/Throwable" "UNASSIGNED_STACK" "[Ljava/lang/StackTraceElement;"), (Jvm.Cond.fieldLink "java/lang/Throwable" (20 : Nat) "java/lang/Throwable" "SUPPRESSED_SENTINEL" "Ljava/util/List;"), (Jvm.Cond.lays "java/lang/Throwable" "java/lang/Throwable" "detailMessage" "Ljava/lang/String;"), (Jvm.Cond.instanceMethod ({ cls := "java/lang/IndexOutOfBoundsException", name := "<init>", desc := "()V" } : Jvm.MethodName)), (Jvm.Cond.code ({ cls := "java/lang/IndexOutOfBoundsException", name := "<init>", desc := "()V" } : Jvm.MethodName) prog_8_method_1_code (1 : Nat) (Option.none : Option Jvm.ClassFile.FieldType)), (Jvm.Cond.methodLink "java/lang/IndexOutOfBoundsException" (1 : Nat) ({ cls := "java/lang/RuntimeException", name := "<init>", desc := "()V" } : Jvm.MethodName)), (Jvm.Cond.instanceMethod ({ cls := "java/lang/RuntimeException", name := "<init>", desc := "()V" } : Jvm.MethodName)), (Jvm.Cond.declares ({ cls := "java/lang/RuntimeException", name := "<init>", desc := "()V" } : Jvm.MethodName)), (Jvm.Cond.instanceMethod ({ cls := "java/lang/RuntimeException", name := "<init>", desc := "()V" } : Jvm.MethodName)), (Jvm.Cond.code ({ cls := "java/lang/RuntimeException", name := "<init>", desc := "()V" } : Jvm.MethodName) prog_10_method_1_code (1 : Nat) (Option.none : Option Jvm.ClassFile.FieldType)), (Jvm.Cond.methodLink "java/lang/RuntimeException" (1 : Nat) ({ cls := "java/lang/Exception", name := "<init>", desc := "()V" } : Jvm.MethodName)), (Jvm.Cond.instanceMethod ({ cls := "java/lang/Exception", name := "<init>", desc := "()V" } : Jvm.MethodName)), (Jvm.Cond.declares ({ cls := "java/lang/Exception", name := "<init>", desc := "()V" } : Jvm.MethodName)), (Jvm.Cond.instanceMethod ({ cls := "java/lang/Exception", name := "<init>", desc := "()V" } : Jvm.MethodName)), (Jvm.Cond.code ({ cls := "java/lang/Exception", name := "<init>", desc := "()V" } : Jvm.MethodName) prog_5_method_1_code (1 : Nat) (Option.none : Option Jvm.ClassFile.FieldType)), (Jvm.Cond.methodLink "java/lang/Exception" (1 : Nat) ({ cls := "java/lang/Throwable", name := "<init>", desc := "()V" } : Jvm.MethodName)), (Jvm.Cond.instanceMethod ({ cls := "java/lang/Throwable", name := "<init>", desc := "()V" } : Jvm.MethodName)), (Jvm.Cond.declares ({ cls := "java/lang/Throwable", name := "<init>", desc := "()V" } : Jvm.MethodName)), (Jvm.Cond.methodLink "PagingKernel" (169 : Nat) ({ cls := "java/lang/IndexOutOfBoundsException", name := "<init>", desc := "()V" } : Jvm.MethodName)), (Jvm.Cond.instantiable "java/lang/IndexOutOfBoundsException" (6 : Nat)), (Jvm.Cond.castable "java/lang/IndexOutOfBoundsException" "java/lang/IndexOutOfBoundsException"), (Jvm.Cond.selects "java/lang/IndexOutOfBoundsException" ({ cls := "java/lang/Throwable", name := "fillInStackTrace", desc := "(I)Ljava/lang/Throwable;" } : Jvm.MethodName) ({ cls := "java/lang/Throwable", name := "fillInStackTrace", desc := "(I)Ljava/lang/Throwable;" } : Jvm.MethodName)), (Jvm.Cond.selects "java/lang/IndexOutOfBoundsException" ({ cls := "java/lang/Throwable", name := "fillInStackTrace", desc := "()Ljava/lang/Throwable;" } : Jvm.MethodName) ({ cls := "java/lang/Throwable", name := "fillInStackTrace", desc := "()Ljava/lang/Throwable;" } : Jvm.MethodName)), (Jvm.Cond.lays "java/lang/IndexOutOfBoundsException" "java/lang/Throwable" "cause" "Ljava/lang/Throwable;"), (Jvm.Cond.lays "java/lang/IndexOutOfBoundsException" "java/lang/Throwable" "stackTrace" "[Ljava/lang/StackTraceElement;"), (Jvm.Cond.lays "java/lang/IndexOutOfBoundsException" "java/lang/Throwable" "suppressedExceptions" "Ljava/util/List;"), (Jvm.Cond.lays "java/lang/IndexOutOfBoundsException" "java/lang/Throwable" "detailMessage" "Ljava/lang/String;"), (Jvm.Cond.fieldLink "java/lang/Throwable" (198 : Nat) "java/lang/Throwable" "backtrace" "Ljava/lang/Object;"), (Jvm.Cond.lays "java/lang/Throwable" "java/lang/Throwable" "backtrace" "Ljava/lang/Object;"), (Jvm.Cond.lays "java/lang/IndexOutOfBoundsException" "java/lang/Throwable" "backtrace" "Ljava/lang/Object;")] by decide +kernel]
  exact List.forall_mem_cons.mpr ⟨Or.inl (am_tl w_1_6), List.forall_mem_cons.mpr ⟨Or.inl (am_tl w_1_184), List.forall_mem_cons.mpr ⟨Or.inl (am_tl w_1_193), List.forall_mem_cons.mpr ⟨Or.inl (am_tl w_1_199), List.forall_mem_cons.mpr ⟨Or.inl (am_tl w_1_202), List.forall_mem_cons.mpr ⟨Or.inl (am_tl w_1_204), List.forall_mem_cons.mpr ⟨Or.inl (am_tl w_1_185), List.forall_mem_cons.mpr ⟨Or.inl (am_tl w_1_186), List.forall_mem_cons.mpr ⟨Or.inl (am_tl w_1_21), List.forall_mem_cons.mpr ⟨Or.inl (am_tl w_1_22), List.forall_mem_cons.mpr ⟨Or.inl (am_tl w_1_187), List.forall_mem_cons.mpr ⟨Or.inl (am_tl w_1_192), List.forall_mem_cons.mpr ⟨Or.inl (am_tl w_1_200), List.forall_mem_cons.mpr ⟨Or.inl (am_tl w_1_216), List.forall_mem_cons.mpr ⟨Or.inl (am_tl w_1_174), List.forall_mem_cons.mpr ⟨Or.inl (am_tl w_1_217), List.forall_mem_cons.mpr ⟨Or.inl (am_tl w_1_176), List.forall_mem_cons.mpr ⟨Or.inl (am_tl w_1_218), List.forall_mem_cons.mpr ⟨Or.inl (am_tl w_1_178), List.forall_mem_cons.mpr ⟨Or.inl (am_tl w_1_188), List.forall_mem_cons.mpr ⟨Or.inl (am_tl w_1_190), List.forall_mem_cons.mpr ⟨Or.inl (am_tl w_1_180), List.forall_mem_cons.mpr ⟨Or.inl (am_tl w_2_115), List.forall_mem_cons.mpr ⟨Or.inl (am_tl w_2_116), List.forall_mem_cons.mpr ⟨Or.inl (am_tl w_2_117), List.forall_mem_cons.mpr ⟨Or.inl (am_tl w_1_209), List.forall_mem_cons.mpr ⟨Or.inr (List.mem_of_getElem? (i := 9) rfl), List.forall_mem_cons.mpr ⟨Or.inl (am_tl w_1_209), List.forall_mem_cons.mpr ⟨Or.inl (am_tl w_1_210), List.forall_mem_cons.mpr ⟨Or.inl (am_tl w_1_211), List.forall_mem_cons.mpr ⟨Or.inl (am_tl w_1_212), List.forall_mem_cons.mpr ⟨Or.inr (List.mem_of_getElem? (i := 11) rfl), List.forall_mem_cons.mpr ⟨Or.inl (am_tl w_1_212), List.forall_mem_cons.mpr ⟨Or.inl (am_tl w_1_213), List.forall_mem_cons.mpr ⟨Or.inl (am_tl w_1_214), List.forall_mem_cons.mpr ⟨Or.inl (am_tl w_1_185), List.forall_mem_cons.mpr ⟨Or.inr (List.mem_of_getElem? (i := 13) rfl), List.forall_mem_cons.mpr ⟨Or.inl (am_tl w_2_114), List.forall_mem_cons.mpr ⟨Or.inl (am_tl w_2_106), List.forall_mem_cons.mpr ⟨Or.inr (List.mem_of_getElem? (i := 4) rfl), List.forall_mem_cons.mpr ⟨Or.inl (am_tl w_2_108), List.forall_mem_cons.mpr ⟨Or.inl (am_tl w_1_196), List.forall_mem_cons.mpr ⟨Or.inl (am_tl w_2_109), List.forall_mem_cons.mpr ⟨Or.inl (am_tl w_2_110), List.forall_mem_cons.mpr ⟨Or.inl (am_tl w_2_111), List.forall_mem_cons.mpr ⟨Or.inl (am_tl w_2_112), List.forall_mem_cons.mpr ⟨Or.inl (am_tl w_1_183), List.forall_mem_cons.mpr ⟨Or.inl (am_tl w_1_182), List.forall_mem_cons.mpr ⟨Or.inl (am_tl w_2_113), fun q hq => nomatch hq⟩⟩⟩⟩⟩⟩⟩⟩⟩⟩⟩⟩⟩⟩⟩⟩⟩⟩⟩⟩⟩⟩⟩⟩⟩⟩⟩⟩⟩⟩⟩⟩⟩⟩⟩⟩⟩⟩⟩⟩⟩⟩⟩⟩⟩⟩⟩⟩⟩
set_option maxRecDepth 100000 in
theorem op_X1_5_167 (C : am_Cx p l R s m args meth c cc nL (c0 :: lw_good) RX1 D am_cl0 tc A rs am_zs0 [] ad0) (hR : 5 < R.frames ∧ 89 ≤ R.locals) : am_op p l e R s m args below meth c D am_cl0 tc A nL n0 ad0 cc (5, 167) (am_fthr 4 169) := am_fthr_ok C (by decide +kernel) (am_tl w_2_105) (am_tl w_1_13) at_X1_167 (by decide +kernel) hR
def X_X1_pageThere : am_X := [((0, 30), (am_fget 1 7)), ((5, 167), (am_fthr 4 169))]
def F_X1_pageThere : List am_V → am_H → Option am_O := am_fn T_X1_pageThere X_X1_pageThere 4 (some .int) am_rs0 [] [] 400 (rm_X1_pageThere.cells, rm_X1_pageThere.slots)
theorem wc_X1_pageThere : Cond.code y_X1_pageThere prog_1_method_20_code 4 (some .int) ∈ lw_good := w_2_104
theorem sl_X1_pageThere : Cond.selects RX1 y_X1_pageThere y_X1_pageThere ∈ lw_good := am_inS (q := (y_X1_pageThere, 8)) (List.mem_append_left _ (List.mem_of_getElem? (i := 14) rfl))
set_option maxRecDepth 100000 in
theorem M_X1_pageThere {l : Launch} (hl : l.stackTraces = false) : am_M am_cl0 am_rs0 am_zs0 l y_X1_pageThere (Cond.code y_X1_pageThere prog_1_method_20_code 4 (some .int) :: lw_good) rm_X1_pageThere (F_X1_pageThere) := am_meth hl (by decide +kernel) (by decide +kernel) (am_okx fun p e s m args below meth c D tc A n0 ad0 C hm => List.forall_mem_cons.mpr ⟨op_X1_0_30 C, List.forall_mem_cons.mpr ⟨op_X1_5_167 C ⟨by decide, by decide⟩, fun q hq => nomatch hq⟩⟩)
set_option maxRecDepth 10000 in
theorem op_X1_3_96 (C : am_Cx p l R s m args meth c cc nL (c0 :: lw_good) RX1 D am_cl0 tc A am_rs0 am_zs0 hs ad0) (hl : l.stackTraces = false) (hR : rm_X1_checkAddress.frames + 1 ≤ R.frames ∧ 8 + (3 + 11) + rm_X1_checkAddress.locals ≤ R.locals) : am_op p l e R s m args below meth c D am_cl0 tc A nL n0 ad0 cc (3, 96) (am_fcv (some 1) 3 F_X1_checkAddress rm_X1_checkAddress.cells rm_X1_checkAddress.slots) := am_fcv_ok C (am_rn_V C rfl (M_X1_checkAddress hl) rfl (am_gd wc_X1_checkAddress) (am_tl w_2_93) (am_tl w_2_95) (am_tl (sl_X1_checkAddress)) (am_tl w_1_1) (by decide +kernel) hR)
set_option maxRecDepth 10000 in
theorem op_X1_3_99 (C : am_Cx p l R s m args meth c cc nL (c0 :: lw_good) RX1 D am_cl0 tc A am_rs0 am_zs0 hs ad0) (hl : l.stackTraces = false) (hR : rm_X1_growStackTo.frames + 1 ≤ R.frames ∧ 8 + (4 + 11) + rm_X1_growStackTo.locals ≤ R.locals) : am_op p l e R s m args below meth c D am_cl0 tc A nL n0 ad0 cc (3, 99) (am_fcv (some 1) 3 F_X1_growStackTo rm_X1_growStackTo.cells rm_X1_growStackTo.slots) := am_fcv_ok C (am_rn_V C rfl (M_X1_growStackTo hl) rfl (am_gd wc_X1_growStackTo) (am_tl w_2_97) (am_tl w_2_99) (am_tl (sl_X1_growStackTo)) (am_tl w_1_1) (by decide +kernel) hR)
set_option maxRecDepth 10000 in
theorem op_X1_3_102 (C : am_Cx p l R s m args meth c cc nL (c0 :: lw_good) RX1 D am_cl0 tc A am_rs0 am_zs0 hs ad0) (hl : l.stackTraces = false) (hR : rm_X1_pageThere.frames + 1 ≤ R.frames ∧ 8 + (4 + 11) + rm_X1_pageThere.locals ≤ R.locals) : am_op p l e R s m args below meth c D am_cl0 tc A nL n0 ad0 cc (3, 102) (am_fci (some 1) 3 F_X1_pageThere rm_X1_pageThere.cells rm_X1_pageThere.slots) := am_fci_ok C (am_rn_V C rfl (M_X1_pageThere hl) rfl (am_gd wc_X1_pageThere) (am_tl w_2_101) (am_tl w_2_103) (am_tl (sl_X1_pageThere)) (am_tl w_1_1) (by decide +kernel) hR)
set_option maxRecDepth 10000 in
theorem op_X1_3_106 (C : am_Cx p l R s m args meth c cc nL (c0 :: lw_good) RX1 D am_cl0 tc A am_rs0 am_zs0 hs ad0) (hl : l.stackTraces = false) (hR : rm_X0_touch.frames + 1 ≤ R.frames ∧ 8 + (3 + 11) + rm_X0_touch.locals ≤ R.locals) : am_op p l e R s m args below meth c D am_cl0 tc A nL n0 ad0 cc (3, 106) (am_fci (some 0) 2 F_X0_touch rm_X0_touch.cells rm_X0_touch.slots) := am_fci_ok C (am_rn_V C rfl (M_X0_touch hl) rfl (am_gd wc_X0_touch) (am_tl w_2_120) (am_tl w_2_121) (am_tl w_2_122) (am_tl w_1_2) (by decide +kernel) hR)
set_option maxRecDepth 10000 in
theorem op_X1_3_109 (C : am_Cx p l R s m args meth c cc nL (c0 :: lw_good) RX1 D am_cl0 tc A am_rs0 am_zs0 hs ad0) (hl : l.stackTraces = false) (hR : rm_X0_wordOf.frames + 1 ≤ R.frames ∧ 8 + (3 + 11) + rm_X0_wordOf.locals ≤ R.locals) : am_op p l e R s m args below meth c D am_cl0 tc A nL n0 ad0 cc (3, 109) (am_fci (some 0) 3 F_X0_wordOf rm_X0_wordOf.cells rm_X0_wordOf.slots) := am_fci_ok C (am_rn_V C rfl (M_X0_wordOf hl) rfl (am_gd wc_X0_wordOf) (am_tl w_2_150) (am_tl w_2_151) (am_tl w_2_152) (am_tl w_1_2) (by decide +kernel) hR)
def X_X1_read : am_X := [((3, 96), (am_fcv (some 1) 3 F_X1_checkAddress rm_X1_checkAddress.cells rm_X1_checkAddress.slots)), ((3, 99), (am_fcv (some 1) 3 F_X1_growStackTo rm_X1_growStackTo.cells rm_X1_growStackTo.slots)), ((3, 102), (am_fci (some 1) 3 F_X1_pageThere rm_X1_pageThere.cells rm_X1_pageThere.slots)), ((0, 42), (am_fget 1 0)), ((3, 106), (am_fci (some 0) 2 F_X0_touch rm_X0_touch.cells rm_X0_touch.slots)), ((5, 90), (am_fthr 3 92)), ((3, 109), (am_fci (some 0) 3 F_X0_wordOf rm_X0_wordOf.cells rm_X0_wordOf.slots))]
def F_X1_read : List am_V → am_H → Option am_O := am_fn T_X1_read X_X1_read 4 (some .int) am_rs0 [] [] 400 (rm_X1_read.cells, rm_X1_read.slots)
theorem wc_X1_read : Cond.code y_X1_read prog_1_method_7_code 4 (some .int) ∈ lw_good := w_2_92
set_option maxRecDepth 100000 in
theorem M_X1_read {l : Launch} (hl : l.stackTraces = false) : am_M am_cl0 am_rs0 am_zs0 l y_X1_read (Cond.code y_X1_read prog_1_method_7_code 4 (some .int) :: lw_good) rm_X1_read (F_X1_read) := am_meth hl (by decide +kernel) (by decide +kernel) (am_okx fun p e s m args below meth c D tc A n0 ad0 C hm => List.forall_mem_cons.mpr ⟨op_X1_3_96 C hl ⟨by decide, by decide⟩, List.forall_mem_cons.mpr ⟨op_X1_3_99 C hl ⟨by decide, by decide⟩, List.forall_mem_cons.mpr ⟨op_X1_3_102 C hl ⟨by decide, by decide⟩, List.forall_mem_cons.mpr ⟨op_X1_0_42 C, List.forall_mem_cons.mpr ⟨op_X1_3_106 C hl ⟨by decide, by decide⟩, List.forall_mem_cons.mpr ⟨op_X1_5_90 C ⟨by decide, by decide⟩, List.forall_mem_cons.mpr ⟨op_X1_3_109 C hl ⟨by decide, by decide⟩, fun q hq => nomatch hq⟩⟩⟩⟩⟩⟩⟩)
set_option maxRecDepth 10000 in
theorem op_X1_3_112 (C : am_Cx p l R s m args meth c cc nL (c0 :: lw_good) RX1 D am_cl0 tc A am_rs0 am_zs0 hs ad0) (hl : l.stackTraces = false) (hR : rm_X0_touchOwn.frames + 1 ≤ R.frames ∧ 8 + (4 + 11) + rm_X0_touchOwn.locals ≤ R.locals) : am_op p l e R s m args below meth c D am_cl0 tc A nL n0 ad0 cc (3, 112) (am_fci (some 0) 2 F_X0_touchOwn rm_X0_touchOwn.cells rm_X0_touchOwn.slots) := am_fci_ok C (am_rn_V C rfl (M_X0_touchOwn hl) rfl (am_gd wc_X0_touchOwn) (am_tl w_2_161) (am_tl w_2_162) (am_tl w_2_163) (am_tl w_1_2) (by decide +kernel) hR)
set_option maxRecDepth 10000 in
theorem op_X1_3_115 (C : am_Cx p l R s m args meth c cc nL (c0 :: lw_good) RX1 D am_cl0 tc A am_rs0 am_zs0 hs ad0) (hl : l.stackTraces = false) (hR : rm_X0_replaceWord.frames + 1 ≤ R.frames ∧ 8 + (5 + 11) + rm_X0_replaceWord.locals ≤ R.locals) : am_op p l e R s m args below meth c D am_cl0 tc A nL n0 ad0 cc (3, 115) (am_fci (some 0) 4 F_X0_replaceWord rm_X0_replaceWord.cells rm_X0_replaceWord.slots) := am_fci_ok C (am_rn_V C rfl (M_X0_replaceWord hl) rfl (am_gd wc_X0_replaceWord) (am_tl w_2_171) (am_tl w_2_172) (am_tl w_2_173) (am_tl w_1_2) (by decide +kernel) hR)
def X_X1_write : am_X := [((3, 96), (am_fcv (some 1) 3 F_X1_checkAddress rm_X1_checkAddress.cells rm_X1_checkAddress.slots)), ((3, 99), (am_fcv (some 1) 3 F_X1_growStackTo rm_X1_growStackTo.cells rm_X1_growStackTo.slots)), ((3, 102), (am_fci (some 1) 3 F_X1_pageThere rm_X1_pageThere.cells rm_X1_pageThere.slots)), ((5, 66), (am_fthr 2 68)), ((0, 42), (am_fget 1 0)), ((3, 112), (am_fci (some 0) 2 F_X0_touchOwn rm_X0_touchOwn.cells rm_X0_touchOwn.slots)), ((5, 90), (am_fthr 3 92)), ((0, 30), (am_fget 1 7)), ((3, 115), (am_fci (some 0) 4 F_X0_replaceWord rm_X0_replaceWord.cells rm_X0_replaceWord.slots))]
def F_X1_write : List am_V → am_H → Option am_O := am_fn T_X1_write X_X1_write 7 (some .int) am_rs0 [] [] 400 (rm_X1_write.cells, rm_X1_write.slots)
theorem wc_X1_write : Cond.code y_X1_write prog_1_method_8_code 7 (some .int) ∈ lw_good := w_2_160
set_option maxRecDepth 100000 in
theorem M_X1_write {l : Launch} (hl : l.stackTraces = false) : am_M am_cl0 am_rs0 am_zs0 l y_X1_write (Cond.code y_X1_write prog_1_method_8_code 7 (some .int) :: lw_good) rm_X1_write (F_X1_write) := am_meth hl (by decide +kernel) (by decide +kernel) (am_okx fun p e s m args below meth c D tc A n0 ad0 C hm => List.forall_mem_cons.mpr ⟨op_X1_3_96 C hl ⟨by decide, by decide⟩, List.forall_mem_cons.mpr ⟨op_X1_3_99 C hl ⟨by decide, by decide⟩, List.forall_mem_cons.mpr ⟨op_X1_3_102 C hl ⟨by decide, by decide⟩, List.forall_mem_cons.mpr ⟨op_X1_5_66 C ⟨by decide, by decide⟩, List.forall_mem_cons.mpr ⟨op_X1_0_42 C, List.forall_mem_cons.mpr ⟨op_X1_3_112 C hl ⟨by decide, by decide⟩, List.forall_mem_cons.mpr ⟨op_X1_5_90 C ⟨by decide, by decide⟩, List.forall_mem_cons.mpr ⟨op_X1_0_30 C, List.forall_mem_cons.mpr ⟨op_X1_3_115 C hl ⟨by decide, by decide⟩, fun q hq => nomatch hq⟩⟩⟩⟩⟩⟩⟩⟩⟩)
set_option maxRecDepth 10000 in
theorem op_X1_3_118 (C : am_Cx p l R s m args meth c cc nL (c0 :: lw_good) RX1 D am_cl0 tc A am_rs0 am_zs0 hs ad0) (hl : l.stackTraces = false) (hR : rm_X0_lookAndMoveOn.frames + 1 ≤ R.frames ∧ 8 + (3 + 11) + rm_X0_lookAndMoveOn.locals ≤ R.locals) : am_op p l e R s m args below meth c D am_cl0 tc A nL n0 ad0 cc (3, 118) (am_fci (some 0) 1 F_X0_lookAndMoveOn rm_X0_lookAndMoveOn.cells rm_X0_lookAndMoveOn.slots) := am_fci_ok C (am_rn_V C rfl (M_X0_lookAndMoveOn hl) rfl (am_gd wc_X0_lookAndMoveOn) (am_tl w_2_182) (am_tl w_2_132) (am_tl w_2_133) (am_tl w_1_2) (by decide +kernel) hR)
def X_X1_sweep : am_X := [((2, 72), (am_fcv none 3 F_X1_checkRange rm_X1_checkRange.cells rm_X1_checkRange.slots)), ((0, 42), (am_fget 1 0)), ((3, 118), (am_fci (some 0) 1 F_X0_lookAndMoveOn rm_X0_lookAndMoveOn.cells rm_X0_lookAndMoveOn.slots))]
def F_X1_sweep : List am_V → am_H → Option am_O := am_fn T_X1_sweep X_X1_sweep 4 (some .int) am_rs0 [] [(11, [0, 1, 2, 3])] 400 (rm_X1_sweep.cells, rm_X1_sweep.slots)
theorem wc_X1_sweep : Cond.code y_X1_sweep prog_1_method_9_code 4 (some .int) ∈ lw_good := w_2_181
set_option maxRecDepth 100000 in
theorem M_X1_sweep {l : Launch} (hl : l.stackTraces = false) : am_M am_cl0 am_rs0 am_zs0 l y_X1_sweep (Cond.code y_X1_sweep prog_1_method_9_code 4 (some .int) :: lw_good) rm_X1_sweep (F_X1_sweep) := am_meth hl (by decide +kernel) (by decide +kernel) (am_okx fun p e s m args below meth c D tc A n0 ad0 C hm => List.forall_mem_cons.mpr ⟨op_X1_2_72 C hl ⟨by decide, by decide⟩, List.forall_mem_cons.mpr ⟨op_X1_0_42 C, List.forall_mem_cons.mpr ⟨op_X1_3_118 C hl ⟨by decide, by decide⟩, fun q hq => nomatch hq⟩⟩⟩)
set_option maxRecDepth 10000 in
theorem op_X1_3_122 (C : am_Cx p l R s m args meth c cc nL (c0 :: lw_good) RX1 D am_cl0 tc A am_rs0 am_zs0 hs ad0) (hl : l.stackTraces = false) (hR : rm_X0_sendOutIfUnshared.frames + 1 ≤ R.frames ∧ 8 + (3 + 11) + rm_X0_sendOutIfUnshared.locals ≤ R.locals) : am_op p l e R s m args below meth c D am_cl0 tc A nL n0 ad0 cc (3, 122) (am_fci (some 0) 2 F_X0_sendOutIfUnshared rm_X0_sendOutIfUnshared.cells rm_X0_sendOutIfUnshared.slots) := am_fci_ok C (am_rn_V C rfl (M_X0_sendOutIfUnshared hl) rfl (am_gd wc_X0_sendOutIfUnshared) (am_tl w_2_190) (am_tl w_2_191) (am_tl w_2_192) (am_tl w_1_2) (by decide +kernel) hR)
def X_X1_swapOut : am_X := [((2, 55), (am_fcv none 1 F_X1_checkProcess rm_X1_checkProcess.cells rm_X1_checkProcess.slots)), ((3, 59), (am_fcv (some 1) 2 F_X1_checkRunning rm_X1_checkRunning.cells rm_X1_checkRunning.slots)), ((0, 30), (am_fget 1 7)), ((0, 42), (am_fget 1 0)), ((3, 122), (am_fci (some 0) 2 F_X0_sendOutIfUnshared rm_X0_sendOutIfUnshared.cells rm_X0_sendOutIfUnshared.slots))]
def F_X1_swapOut : List am_V → am_H → Option am_O := am_fn T_X1_swapOut X_X1_swapOut 5 (some .int) am_rs0 [] [(13, [0, 1, 2, 3])] 400 (rm_X1_swapOut.cells, rm_X1_swapOut.slots)
theorem wc_X1_swapOut : Cond.code y_X1_swapOut prog_1_method_10_code 5 (some .int) ∈ lw_good := w_2_189
set_option maxRecDepth 100000 in
theorem M_X1_swapOut {l : Launch} (hl : l.stackTraces = false) : am_M am_cl0 am_rs0 am_zs0 l y_X1_swapOut (Cond.code y_X1_swapOut prog_1_method_10_code 5 (some .int) :: lw_good) rm_X1_swapOut (F_X1_swapOut) := am_meth hl (by decide +kernel) (by decide +kernel) (am_okx fun p e s m args below meth c D tc A n0 ad0 C hm => List.forall_mem_cons.mpr ⟨op_X1_2_55 C hl ⟨by decide, by decide⟩, List.forall_mem_cons.mpr ⟨op_X1_3_59 C hl ⟨by decide, by decide⟩, List.forall_mem_cons.mpr ⟨op_X1_0_30 C, List.forall_mem_cons.mpr ⟨op_X1_0_42 C, List.forall_mem_cons.mpr ⟨op_X1_3_122 C hl ⟨by decide, by decide⟩, fun q hq => nomatch hq⟩⟩⟩⟩⟩)
set_option maxRecDepth 10000 in
theorem op_X1_3_125 (C : am_Cx p l R s m args meth c cc nL (c0 :: lw_good) RX1 D am_cl0 tc A am_rs0 am_zs0 hs ad0) (hl : l.stackTraces = false) (hR : rm_X0_homeOf.frames + 1 ≤ R.frames ∧ 8 + (2 + 11) + rm_X0_homeOf.locals ≤ R.locals) : am_op p l e R s m args below meth c D am_cl0 tc A nL n0 ad0 cc (3, 125) (am_fci (some 0) 2 F_X0_homeOf rm_X0_homeOf.cells rm_X0_homeOf.slots) := am_fci_ok C (am_rn_V C rfl (M_X0_homeOf hl) rfl (am_gd wc_X0_homeOf) (am_tl w_2_201) (am_tl w_2_202) (am_tl w_2_203) (am_tl w_1_2) (by decide +kernel) hR)
def X_X1_where : am_X := [((3, 96), (am_fcv (some 1) 3 F_X1_checkAddress rm_X1_checkAddress.cells rm_X1_checkAddress.slots)), ((0, 42), (am_fget 1 0)), ((3, 102), (am_fci (some 1) 3 F_X1_pageThere rm_X1_pageThere.cells rm_X1_pageThere.slots)), ((3, 125), (am_fci (some 0) 2 F_X0_homeOf rm_X0_homeOf.cells rm_X0_homeOf.slots))]
def F_X1_where : List am_V → am_H → Option am_O := am_fn T_X1_where X_X1_where 3 (some .int) am_rs0 [] [] 400 (rm_X1_where.cells, rm_X1_where.slots)
theorem wc_X1_where : Cond.code y_X1_where prog_1_method_11_code 3 (some .int) ∈ lw_good := w_2_200
set_option maxRecDepth 100000 in
theorem M_X1_where {l : Launch} (hl : l.stackTraces = false) : am_M am_cl0 am_rs0 am_zs0 l y_X1_where (Cond.code y_X1_where prog_1_method_11_code 3 (some .int) :: lw_good) rm_X1_where (F_X1_where) := am_meth hl (by decide +kernel) (by decide +kernel) (am_okx fun p e s m args below meth c D tc A n0 ad0 C hm => List.forall_mem_cons.mpr ⟨op_X1_3_96 C hl ⟨by decide, by decide⟩, List.forall_mem_cons.mpr ⟨op_X1_0_42 C, List.forall_mem_cons.mpr ⟨op_X1_3_102 C hl ⟨by decide, by decide⟩, List.forall_mem_cons.mpr ⟨op_X1_3_125 C hl ⟨by decide, by decide⟩, fun q hq => nomatch hq⟩⟩⟩⟩)
set_option maxRecDepth 10000 in
theorem op_X1_3_128 (C : am_Cx p l R s m args meth c cc nL (c0 :: lw_good) RX1 D am_cl0 tc A am_rs0 am_zs0 hs ad0) (hl : l.stackTraces = false) (hR : rm_X0_usersOf.frames + 1 ≤ R.frames ∧ 8 + (2 + 11) + rm_X0_usersOf.locals ≤ R.locals) : am_op p l e R s m args below meth c D am_cl0 tc A nL n0 ad0 cc (3, 128) (am_fci (some 0) 2 F_X0_usersOf rm_X0_usersOf.cells rm_X0_usersOf.slots) := am_fci_ok C (am_rn_V C rfl (M_X0_usersOf hl) rfl (am_gd wc_X0_usersOf) (am_tl w_2_212) (am_tl w_2_213) (am_tl w_2_214) (am_tl w_1_2) (by decide +kernel) hR)
def X_X1_sharers : am_X := [((3, 96), (am_fcv (some 1) 3 F_X1_checkAddress rm_X1_checkAddress.cells rm_X1_checkAddress.slots)), ((0, 42), (am_fget 1 0)), ((3, 102), (am_fci (some 1) 3 F_X1_pageThere rm_X1_pageThere.cells rm_X1_pageThere.slots)), ((3, 128), (am_fci (some 0) 2 F_X0_usersOf rm_X0_usersOf.cells rm_X0_usersOf.slots))]
def F_X1_sharers : List am_V → am_H → Option am_O := am_fn T_X1_sharers X_X1_sharers 3 (some .int) am_rs0 [] [] 400 (rm_X1_sharers.cells, rm_X1_sharers.slots)
theorem wc_X1_sharers : Cond.code y_X1_sharers prog_1_method_12_code 3 (some .int) ∈ lw_good := w_2_211
set_option maxRecDepth 100000 in
theorem M_X1_sharers {l : Launch} (hl : l.stackTraces = false) : am_M am_cl0 am_rs0 am_zs0 l y_X1_sharers (Cond.code y_X1_sharers prog_1_method_12_code 3 (some .int) :: lw_good) rm_X1_sharers (F_X1_sharers) := am_meth hl (by decide +kernel) (by decide +kernel) (am_okx fun p e s m args below meth c D tc A n0 ad0 C hm => List.forall_mem_cons.mpr ⟨op_X1_3_96 C hl ⟨by decide, by decide⟩, List.forall_mem_cons.mpr ⟨op_X1_0_42 C, List.forall_mem_cons.mpr ⟨op_X1_3_102 C hl ⟨by decide, by decide⟩, List.forall_mem_cons.mpr ⟨op_X1_3_128 C hl ⟨by decide, by decide⟩, fun q hq => nomatch hq⟩⟩⟩⟩)
def X_X1_fact : am_X := [((2, 55), (am_fcv none 1 F_X1_checkProcess rm_X1_checkProcess.cells rm_X1_checkProcess.slots)), ((2, 72), (am_fcv none 3 F_X1_checkRange rm_X1_checkRange.cells rm_X1_checkRange.slots)), ((0, 9), (am_fget 1 1)), ((0, 16), (am_fget 1 3)), ((0, 13), (am_fget 1 2)), ((0, 22), (am_fget 1 5)), ((0, 25), (am_fget 1 6))]
def F_X1_fact : List am_V → am_H → Option am_O := am_fn T_X1_fact X_X1_fact 3 (some .int) am_rs0 [] [] 400 (rm_X1_fact.cells, rm_X1_fact.slots)
theorem wc_X1_fact : Cond.code y_X1_fact prog_1_method_13_code 3 (some .int) ∈ lw_good := w_2_222
set_option maxRecDepth 100000 in
theorem M_X1_fact {l : Launch} (hl : l.stackTraces = false) : am_M am_cl0 am_rs0 am_zs0 l y_X1_fact (Cond.code y_X1_fact prog_1_method_13_code 3 (some .int) :: lw_good) rm_X1_fact (F_X1_fact) := am_meth hl (by decide +kernel) (by decide +kernel) (am_okx fun p e s m args below meth c D tc A n0 ad0 C hm => List.forall_mem_cons.mpr ⟨op_X1_2_55 C hl ⟨by decide, by decide⟩, List.forall_mem_cons.mpr ⟨op_X1_2_72 C hl ⟨by decide, by decide⟩, List.forall_mem_cons.mpr ⟨op_X1_0_9 C, List.forall_mem_cons.mpr ⟨op_X1_0_16 C, List.forall_mem_cons.mpr ⟨op_X1_0_13 C, List.forall_mem_cons.mpr ⟨op_X1_0_22 C, List.forall_mem_cons.mpr ⟨op_X1_0_25 C, fun q hq => nomatch hq⟩⟩⟩⟩⟩⟩⟩)
set_option maxRecDepth 10000 in
theorem op_X1_3_131 (C : am_Cx p l R s m args meth c cc nL (c0 :: lw_good) RX1 D am_cl0 tc A am_rs0 am_zs0 hs ad0) (hl : l.stackTraces = false) (hR : rm_X0_freeFrames.frames + 1 ≤ R.frames ∧ 8 + (1 + 11) + rm_X0_freeFrames.locals ≤ R.locals) : am_op p l e R s m args below meth c D am_cl0 tc A nL n0 ad0 cc (3, 131) (am_fci (some 0) 1 F_X0_freeFrames rm_X0_freeFrames.cells rm_X0_freeFrames.slots) := am_fci_ok C (am_rn_V C rfl (M_X0_freeFrames hl) rfl (am_gd wc_X0_freeFrames) (am_tl w_2_230) (am_tl w_2_231) (am_tl w_2_232) (am_tl w_1_2) (by decide +kernel) hR)
set_option maxRecDepth 10000 in
theorem op_X1_3_134 (C : am_Cx p l R s m args meth c cc nL (c0 :: lw_good) RX1 D am_cl0 tc A am_rs0 am_zs0 hs ad0) (hl : l.stackTraces = false) (hR : rm_X0_freeSlots.frames + 1 ≤ R.frames ∧ 8 + (1 + 11) + rm_X0_freeSlots.locals ≤ R.locals) : am_op p l e R s m args below meth c D am_cl0 tc A nL n0 ad0 cc (3, 134) (am_fci (some 0) 1 F_X0_freeSlots rm_X0_freeSlots.cells rm_X0_freeSlots.slots) := am_fci_ok C (am_rn_V C rfl (M_X0_freeSlots hl) rfl (am_gd wc_X0_freeSlots) (am_tl w_2_237) (am_tl w_2_238) (am_tl w_2_239) (am_tl w_1_2) (by decide +kernel) hR)
theorem op_X1_0_137 (C : am_Cx p l R s m args meth c cc nL (c0 :: lw_good) RX1 D am_cl0 tc A rs am_zs0 hs ad0) : am_op p l e R s m args below meth c D am_cl0 tc A nL n0 ad0 cc (0, 137) (am_fget 0 7) := am_fgetN_ok (j := 7) (N := 10) (T := TX0) C rfl (fun w hw => am_tl (hinX0 w hw)) (by decide) (List.mem_of_getElem? (i := 6) rfl)
theorem op_X1_0_141 (C : am_Cx p l R s m args meth c cc nL (c0 :: lw_good) RX1 D am_cl0 tc A rs am_zs0 hs ad0) : am_op p l e R s m args below meth c D am_cl0 tc A nL n0 ad0 cc (0, 141) (am_fget 0 8) := am_fgetN_ok (j := 8) (N := 10) (T := TX0) C rfl (fun w hw => am_tl (hinX0 w hw)) (by decide) (List.mem_of_getElem? (i := 7) rfl)
theorem op_X1_0_144 (C : am_Cx p l R s m args meth c cc nL (c0 :: lw_good) RX1 D am_cl0 tc A rs am_zs0 hs ad0) : am_op p l e R s m args below meth c D am_cl0 tc A nL n0 ad0 cc (0, 144) (am_fget 0 6) := am_fgetN_ok (j := 6) (N := 10) (T := TX0) C rfl (fun w hw => am_tl (hinX0 w hw)) (by decide) (List.mem_of_getElem? (i := 5) rfl)
theorem op_X1_0_147 (C : am_Cx p l R s m args meth c cc nL (c0 :: lw_good) RX1 D am_cl0 tc A rs am_zs0 hs ad0) : am_op p l e R s m args below meth c D am_cl0 tc A nL n0 ad0 cc (0, 147) (am_fget 0 9) := am_fgetN_ok (j := 9) (N := 10) (T := TX0) C rfl (fun w hw => am_tl (hinX0 w hw)) (by decide) (List.mem_of_getElem? (i := 8) rfl)
set_option maxRecDepth 10000 in
theorem op_X1_3_150 (C : am_Cx p l R s m args meth c cc nL (c0 :: lw_good) RX1 D am_cl0 tc A am_rs0 am_zs0 hs ad0) (hl : l.stackTraces = false) (hR : rm_X0_markOf.frames + 1 ≤ R.frames ∧ 8 + (2 + 11) + rm_X0_markOf.locals ≤ R.locals) : am_op p l e R s m args below meth c D am_cl0 tc A nL n0 ad0 cc (3, 150) (am_fci (some 0) 2 F_X0_markOf rm_X0_markOf.cells rm_X0_markOf.slots) := am_fci_ok C (am_rn_V C rfl (M_X0_markOf hl) rfl (am_gd wc_X0_markOf) (am_tl w_3_1) (am_tl w_3_2) (am_tl w_3_3) (am_tl w_1_2) (by decide +kernel) hR)
def X_X1_count : am_X := [((2, 72), (am_fcv none 3 F_X1_checkRange rm_X1_checkRange.cells rm_X1_checkRange.slots)), ((0, 42), (am_fget 1 0)), ((3, 131), (am_fci (some 0) 1 F_X0_freeFrames rm_X0_freeFrames.cells rm_X0_freeFrames.slots)), ((3, 134), (am_fci (some 0) 1 F_X0_freeSlots rm_X0_freeSlots.cells rm_X0_freeSlots.slots)), ((0, 137), (am_fget 0 7)), ((0, 141), (am_fget 0 8)), ((0, 144), (am_fget 0 6)), ((0, 147), (am_fget 0 9)), ((3, 150), (am_fci (some 0) 2 F_X0_markOf rm_X0_markOf.cells rm_X0_markOf.slots))]
def F_X1_count : List am_V → am_H → Option am_O := am_fn T_X1_count X_X1_count 2 (some .int) am_rs0 [] [] 400 (rm_X1_count.cells, rm_X1_count.slots)
theorem wc_X1_count : Cond.code y_X1_count prog_1_method_14_code 2 (some .int) ∈ lw_good := w_2_229
set_option maxRecDepth 100000 in
theorem M_X1_count {l : Launch} (hl : l.stackTraces = false) : am_M am_cl0 am_rs0 am_zs0 l y_X1_count (Cond.code y_X1_count prog_1_method_14_code 2 (some .int) :: lw_good) rm_X1_count (F_X1_count) := am_meth hl (by decide +kernel) (by decide +kernel) (am_okx fun p e s m args below meth c D tc A n0 ad0 C hm => List.forall_mem_cons.mpr ⟨op_X1_2_72 C hl ⟨by decide, by decide⟩, List.forall_mem_cons.mpr ⟨op_X1_0_42 C, List.forall_mem_cons.mpr ⟨op_X1_3_131 C hl ⟨by decide, by decide⟩, List.forall_mem_cons.mpr ⟨op_X1_3_134 C hl ⟨by decide, by decide⟩, List.forall_mem_cons.mpr ⟨op_X1_0_137 C, List.forall_mem_cons.mpr ⟨op_X1_0_141 C, List.forall_mem_cons.mpr ⟨op_X1_0_144 C, List.forall_mem_cons.mpr ⟨op_X1_0_147 C, List.forall_mem_cons.mpr ⟨op_X1_3_150 C hl ⟨by decide, by decide⟩, fun q hq => nomatch hq⟩⟩⟩⟩⟩⟩⟩⟩⟩)
end AMP
end
section
section AMP
variable {p : Program} {l : Launch} {e : Env} {R : Room} {s : State} {m : MethodId} {args : Array Value} {below : List Frame} {meth : Method} {c : Code} {D : va_G} {tc : Nat → ClassId} {A : Nat → Prop} {nL n0 : Nat} {ad0 : am_A} {cc : ByteArray} {c0 : Cond} {hs : am_Hs} {rs : Nat → Option (Nat × (Nat → Int32))}
theorem op_X2_0_34 (C : am_Cx p l R s m args meth c cc nL (c0 :: lw_good) RX2 D am_cl0 tc A rs am_zs0 hs ad0) : am_op p l e R s m args below meth c D am_cl0 tc A nL n0 ad0 cc (0, 34) (am_fget 2 11) := am_fget_ok (j := 11) (N := 20) (T := TX2) C rfl (fun w hw => am_tl (hinX2 w hw)) (by decide) (am_tl w_3_30)
theorem op_X2_0_38 (C : am_Cx p l R s m args meth c cc nL (c0 :: lw_good) RX2 D am_cl0 tc A rs am_zs0 hs ad0) : am_op p l e R s m args below meth c D am_cl0 tc A nL n0 ad0 cc (0, 38) (am_fget 2 12) := am_fget_ok (j := 12) (N := 20) (T := TX2) C rfl (fun w hw => am_tl (hinX2 w hw)) (by decide) (am_tl w_3_31)
theorem op_X2_0_31 (C : am_Cx p l R s m args meth c cc nL (c0 :: lw_good) RX2 D am_cl0 tc A rs am_zs0 hs ad0) : am_op p l e R s m args below meth c D am_cl0 tc A nL n0 ad0 cc (0, 31) (am_fget 2 10) := am_fget_ok (j := 10) (N := 20) (T := TX2) C rfl (fun w hw => am_tl (hinX2 w hw)) (by decide) (am_tl w_3_29)
def X_X2_newPage : am_X := [((0, 34), (am_fget 2 11)), ((0, 38), (am_fget 2 12)), ((0, 31), (am_fget 2 10))]
def F_X2_newPage : List am_V → am_H → Option am_O := am_fn T_X2_newPage X_X2_newPage 3 (some .int) am_rs0 [] [(2, [0, 1]), (33, [0, 1, 2])] 400 (rm_X2_newPage.cells, rm_X2_newPage.slots)
theorem wc_X2_newPage : Cond.code y_X2_newPage prog_4_method_6_code 3 (some .int) ∈ lw_good := w_3_18
theorem sl_X2_newPage : Cond.selects RX2 y_X2_newPage y_X2_newPage ∈ lw_good := am_inS (q := (y_X2_newPage, 20)) (List.mem_append_right _ (List.mem_append_left _ (List.mem_of_getElem? (i := 4) rfl)))
set_option maxRecDepth 100000 in
theorem M_X2_newPage {l : Launch} (hl : l.stackTraces = false) : am_M am_cl0 am_rs0 am_zs0 l y_X2_newPage (Cond.code y_X2_newPage prog_4_method_6_code 3 (some .int) :: lw_good) rm_X2_newPage (F_X2_newPage) := am_meth hl (by decide +kernel) (by decide +kernel) (am_okx fun p e s m args below meth c D tc A n0 ad0 C hm => List.forall_mem_cons.mpr ⟨op_X2_0_34 C, List.forall_mem_cons.mpr ⟨op_X2_0_38 C, List.forall_mem_cons.mpr ⟨op_X2_0_31 C, fun q hq => nomatch hq⟩⟩⟩)
theorem op_X2_0_13 (C : am_Cx p l R s m args meth c cc nL (c0 :: lw_good) RX2 D am_cl0 tc A rs am_zs0 hs ad0) : am_op p l e R s m args below meth c D am_cl0 tc A nL n0 ad0 cc (0, 13) (am_fget 2 4) := am_fget_ok (j := 4) (N := 20) (T := TX2) C rfl (fun w hw => am_tl (hinX2 w hw)) (by decide) (am_tl w_3_23)
theorem op_X2_0_22 (C : am_Cx p l R s m args meth c cc nL (c0 :: lw_good) RX2 D am_cl0 tc A rs am_zs0 hs ad0) : am_op p l e R s m args below meth c D am_cl0 tc A nL n0 ad0 cc (0, 22) (am_fget 2 7) := am_fget_ok (j := 7) (N := 20) (T := TX2) C rfl (fun w hw => am_tl (hinX2 w hw)) (by decide) (am_tl w_3_26)
theorem op_X2_0_25 (C : am_Cx p l R s m args meth c cc nL (c0 :: lw_good) RX2 D am_cl0 tc A rs am_zs0 hs ad0) : am_op p l e R s m args below meth c D am_cl0 tc A nL n0 ad0 cc (0, 25) (am_fget 2 8) := am_fget_ok (j := 8) (N := 20) (T := TX2) C rfl (fun w hw => am_tl (hinX2 w hw)) (by decide) (am_tl w_3_27)
theorem op_X2_0_28 (C : am_Cx p l R s m args meth c cc nL (c0 :: lw_good) RX2 D am_cl0 tc A rs am_zs0 hs ad0) : am_op p l e R s m args below meth c D am_cl0 tc A nL n0 ad0 cc (0, 28) (am_fget 2 9) := am_fget_ok (j := 9) (N := 20) (T := TX2) C rfl (fun w hw => am_tl (hinX2 w hw)) (by decide) (am_tl w_3_28)
set_option maxRecDepth 10000 in
theorem op_X2_3_72 (C : am_Cx p l R s m args meth c cc nL (c0 :: lw_good) RX2 D am_cl0 tc A am_rs0 am_zs0 hs ad0) (hl : l.stackTraces = false) (hR : rm_X2_newPage.frames + 1 ≤ R.frames ∧ 8 + (3 + 11) + rm_X2_newPage.locals ≤ R.locals) : am_op p l e R s m args below meth c D am_cl0 tc A nL n0 ad0 cc (3, 72) (am_fci (some 2) 1 F_X2_newPage rm_X2_newPage.cells rm_X2_newPage.slots) := am_fci_ok C (am_rn_V C rfl (M_X2_newPage hl) rfl (am_gd wc_X2_newPage) (am_tl w_3_15) (am_tl w_3_17) (am_tl (sl_X2_newPage)) (am_tl w_1_5) (by decide +kernel) hR)
def X_X2_begin : am_X := [((0, 13), (am_fget 2 4)), ((0, 22), (am_fget 2 7)), ((0, 25), (am_fget 2 8)), ((0, 28), (am_fget 2 9)), ((3, 72), (am_fci (some 2) 1 F_X2_newPage rm_X2_newPage.cells rm_X2_newPage.slots))]
def F_X2_begin : List am_V → am_H → Option am_O := am_fn T_X2_begin X_X2_begin 4 none am_rs0 [] [(33, [0, 1, 3])] 400 (rm_X2_begin.cells, rm_X2_begin.slots)
theorem wc_X2_begin : Cond.code y_X2_begin prog_4_method_10_code 4 none ∈ lw_good := w_3_14
theorem sl_X2_begin : Cond.selects RX2 y_X2_begin y_X2_begin ∈ lw_good := am_inS (q := (y_X2_begin, 20)) (List.mem_append_right _ (List.mem_append_left _ (List.mem_of_getElem? (i := 3) rfl)))
set_option maxRecDepth 100000 in
theorem M_X2_begin {l : Launch} (hl : l.stackTraces = false) : am_M am_cl0 am_rs0 am_zs0 l y_X2_begin (Cond.code y_X2_begin prog_4_method_10_code 4 none :: lw_good) rm_X2_begin (F_X2_begin) := am_meth hl (by decide +kernel) (by decide +kernel) (am_okx fun p e s m args below meth c D tc A n0 ad0 C hm => List.forall_mem_cons.mpr ⟨op_X2_0_13 C, List.forall_mem_cons.mpr ⟨op_X2_0_22 C, List.forall_mem_cons.mpr ⟨op_X2_0_25 C, List.forall_mem_cons.mpr ⟨op_X2_0_28 C, List.forall_mem_cons.mpr ⟨op_X2_3_72 C hl ⟨by decide, by decide⟩, fun q hq => nomatch hq⟩⟩⟩⟩⟩)
theorem op_X2_4_1 (C : am_Cx p l R s m args meth c cc nL (c0 :: lw_good) RX2 D am_cl0 tc A rs am_zs0 hs ad0) (hR : 1 ≤ R.frames ∧ 20 ≤ R.locals) : am_op p l e R s m args below meth c D am_cl0 tc A nL n0 ad0 cc (4, 1) am_fobj := am_fobj_ok C (am_tl w_3_10) (am_tl w_1_21) (am_tl w_1_22) hR
theorem op_X2_8_0 (C : am_Cx p l R s m args meth c cc nL (c0 :: lw_good) RX2 D am_cl0 tc A rs am_zs0 hs ad0) : am_op p l e R s m args below meth c D am_cl0 tc A nL n0 ad0 cc (8, 0) (am_fna 0) := am_fna_ok C (Or.inl ⟨rfl, am_tl w_1_78⟩)
theorem op_X2_1_7 (C : am_Cx p l R s m args meth c cc nL (c0 :: lw_good) RX2 D am_cl0 tc A rs am_zs0 hs ad0) (hm : meth.name = "<init>") : am_op p l e R s m args below meth c D am_cl0 tc A nL n0 ad0 cc (1, 7) (am_fput 2 3 1) := am_fput_ok (j := 3) (q := 1) (N := 20) (T := TX2) C tyX2 tyX2_ok nmX2 rfl (fun w hw => am_tl (hinX2 w hw)) (by decide) (am_tl w_3_22) (Or.inr ⟨rfl, hm, rfl⟩) (fun h => absurd h (by decide)) (fun _ => Or.inr ⟨_, rfl⟩)
theorem op_X2_1_13 (C : am_Cx p l R s m args meth c cc nL (c0 :: lw_good) RX2 D am_cl0 tc A rs am_zs0 hs ad0) (hm : meth.name = "<init>") : am_op p l e R s m args below meth c D am_cl0 tc A nL n0 ad0 cc (1, 13) (am_fput 2 4 1) := am_fput_ok (j := 4) (q := 1) (N := 20) (T := TX2) C tyX2 tyX2_ok nmX2 rfl (fun w hw => am_tl (hinX2 w hw)) (by decide) (am_tl w_3_23) (Or.inr ⟨rfl, hm, rfl⟩) (fun h => absurd h (by decide)) (fun _ => Or.inr ⟨_, rfl⟩)
theorem op_X2_1_16 (C : am_Cx p l R s m args meth c cc nL (c0 :: lw_good) RX2 D am_cl0 tc A rs am_zs0 hs ad0) (hm : meth.name = "<init>") : am_op p l e R s m args below meth c D am_cl0 tc A nL n0 ad0 cc (1, 16) (am_fput 2 5 1) := am_fput_ok (j := 5) (q := 1) (N := 20) (T := TX2) C tyX2 tyX2_ok nmX2 rfl (fun w hw => am_tl (hinX2 w hw)) (by decide) (am_tl w_3_24) (Or.inr ⟨rfl, hm, rfl⟩) (fun h => absurd h (by decide)) (fun _ => Or.inr ⟨_, rfl⟩)
theorem op_X2_1_19 (C : am_Cx p l R s m args meth c cc nL (c0 :: lw_good) RX2 D am_cl0 tc A rs am_zs0 hs ad0) (hm : meth.name = "<init>") : am_op p l e R s m args below meth c D am_cl0 tc A nL n0 ad0 cc (1, 19) (am_fput 2 6 1) := am_fput_ok (j := 6) (q := 1) (N := 20) (T := TX2) C tyX2 tyX2_ok nmX2 rfl (fun w hw => am_tl (hinX2 w hw)) (by decide) (am_tl w_3_25) (Or.inr ⟨rfl, hm, rfl⟩) (fun h => absurd h (by decide)) (fun _ => Or.inr ⟨_, rfl⟩)
theorem op_X2_1_22 (C : am_Cx p l R s m args meth c cc nL (c0 :: lw_good) RX2 D am_cl0 tc A rs am_zs0 hs ad0) (hm : meth.name = "<init>") : am_op p l e R s m args below meth c D am_cl0 tc A nL n0 ad0 cc (1, 22) (am_fput 2 7 1) := am_fput_ok (j := 7) (q := 1) (N := 20) (T := TX2) C tyX2 tyX2_ok nmX2 rfl (fun w hw => am_tl (hinX2 w hw)) (by decide) (am_tl w_3_26) (Or.inr ⟨rfl, hm, rfl⟩) (fun h => absurd h (by decide)) (fun _ => Or.inr ⟨_, rfl⟩)
theorem op_X2_1_25 (C : am_Cx p l R s m args meth c cc nL (c0 :: lw_good) RX2 D am_cl0 tc A rs am_zs0 hs ad0) (hm : meth.name = "<init>") : am_op p l e R s m args below meth c D am_cl0 tc A nL n0 ad0 cc (1, 25) (am_fput 2 8 1) := am_fput_ok (j := 8) (q := 1) (N := 20) (T := TX2) C tyX2 tyX2_ok nmX2 rfl (fun w hw => am_tl (hinX2 w hw)) (by decide) (am_tl w_3_27) (Or.inr ⟨rfl, hm, rfl⟩) (fun h => absurd h (by decide)) (fun _ => Or.inr ⟨_, rfl⟩)
theorem op_X2_1_28 (C : am_Cx p l R s m args meth c cc nL (c0 :: lw_good) RX2 D am_cl0 tc A rs am_zs0 hs ad0) (hm : meth.name = "<init>") : am_op p l e R s m args below meth c D am_cl0 tc A nL n0 ad0 cc (1, 28) (am_fput 2 9 1) := am_fput_ok (j := 9) (q := 1) (N := 20) (T := TX2) C tyX2 tyX2_ok nmX2 rfl (fun w hw => am_tl (hinX2 w hw)) (by decide) (am_tl w_3_28) (Or.inr ⟨rfl, hm, rfl⟩) (fun h => absurd h (by decide)) (fun _ => Or.inr ⟨_, rfl⟩)
theorem op_X2_1_31 (C : am_Cx p l R s m args meth c cc nL (c0 :: lw_good) RX2 D am_cl0 tc A rs am_zs0 hs ad0) (hm : meth.name = "<init>") : am_op p l e R s m args below meth c D am_cl0 tc A nL n0 ad0 cc (1, 31) (am_fput 2 10 1) := am_fput_ok (j := 10) (q := 1) (N := 20) (T := TX2) C tyX2 tyX2_ok nmX2 rfl (fun w hw => am_tl (hinX2 w hw)) (by decide) (am_tl w_3_29) (Or.inr ⟨rfl, hm, rfl⟩) (fun h => absurd h (by decide)) (fun _ => Or.inr ⟨_, rfl⟩)
theorem op_X2_8_1 (C : am_Cx p l R s m args meth c cc nL (c0 :: lw_good) RX2 D am_cl0 tc A rs am_zs0 hs ad0) : am_op p l e R s m args below meth c D am_cl0 tc A nL n0 ad0 cc (8, 1) (am_fna 1) := am_fna_ok C (Or.inr (Or.inl ⟨rfl, am_tl w_1_79⟩))
theorem op_X2_1_34 (C : am_Cx p l R s m args meth c cc nL (c0 :: lw_good) RX2 D am_cl0 tc A rs am_zs0 hs ad0) (hm : meth.name = "<init>") : am_op p l e R s m args below meth c D am_cl0 tc A nL n0 ad0 cc (1, 34) (am_fput 2 11 1) := am_fput_ok (j := 11) (q := 1) (N := 20) (T := TX2) C tyX2 tyX2_ok nmX2 rfl (fun w hw => am_tl (hinX2 w hw)) (by decide) (am_tl w_3_30) (Or.inr ⟨rfl, hm, rfl⟩) (fun h => absurd h (by decide)) (fun _ => Or.inr ⟨_, rfl⟩)
theorem op_X2_1_38 (C : am_Cx p l R s m args meth c cc nL (c0 :: lw_good) RX2 D am_cl0 tc A rs am_zs0 hs ad0) (hm : meth.name = "<init>") : am_op p l e R s m args below meth c D am_cl0 tc A nL n0 ad0 cc (1, 38) (am_fput 2 12 1) := am_fput_ok (j := 12) (q := 1) (N := 20) (T := TX2) C tyX2 tyX2_ok nmX2 rfl (fun w hw => am_tl (hinX2 w hw)) (by decide) (am_tl w_3_31) (Or.inr ⟨rfl, hm, rfl⟩) (fun h => absurd h (by decide)) (fun _ => Or.inr ⟨_, rfl⟩)
theorem op_X2_1_41 (C : am_Cx p l R s m args meth c cc nL (c0 :: lw_good) RX2 D am_cl0 tc A rs am_zs0 hs ad0) (hm : meth.name = "<init>") : am_op p l e R s m args below meth c D am_cl0 tc A nL n0 ad0 cc (1, 41) (am_fput 2 13 1) := am_fput_ok (j := 13) (q := 1) (N := 20) (T := TX2) C tyX2 tyX2_ok nmX2 rfl (fun w hw => am_tl (hinX2 w hw)) (by decide) (am_tl w_3_32) (Or.inr ⟨rfl, hm, rfl⟩) (fun h => absurd h (by decide)) (fun _ => Or.inr ⟨_, rfl⟩)
theorem op_X2_1_44 (C : am_Cx p l R s m args meth c cc nL (c0 :: lw_good) RX2 D am_cl0 tc A rs am_zs0 hs ad0) (hm : meth.name = "<init>") : am_op p l e R s m args below meth c D am_cl0 tc A nL n0 ad0 cc (1, 44) (am_fput 2 14 1) := am_fput_ok (j := 14) (q := 1) (N := 20) (T := TX2) C tyX2 tyX2_ok nmX2 rfl (fun w hw => am_tl (hinX2 w hw)) (by decide) (am_tl w_3_33) (Or.inr ⟨rfl, hm, rfl⟩) (fun h => absurd h (by decide)) (fun _ => Or.inr ⟨_, rfl⟩)
theorem op_X2_1_47 (C : am_Cx p l R s m args meth c cc nL (c0 :: lw_good) RX2 D am_cl0 tc A rs am_zs0 hs ad0) (hm : meth.name = "<init>") : am_op p l e R s m args below meth c D am_cl0 tc A nL n0 ad0 cc (1, 47) (am_fput 2 15 1) := am_fput_ok (j := 15) (q := 1) (N := 20) (T := TX2) C tyX2 tyX2_ok nmX2 rfl (fun w hw => am_tl (hinX2 w hw)) (by decide) (am_tl w_3_34) (Or.inr ⟨rfl, hm, rfl⟩) (fun h => absurd h (by decide)) (fun _ => Or.inr ⟨_, rfl⟩)
theorem op_X2_1_50 (C : am_Cx p l R s m args meth c cc nL (c0 :: lw_good) RX2 D am_cl0 tc A rs am_zs0 hs ad0) (hm : meth.name = "<init>") : am_op p l e R s m args below meth c D am_cl0 tc A nL n0 ad0 cc (1, 50) (am_fput 2 1 0) := am_fput_ok (j := 1) (q := 0) (N := 20) (T := TX2) C tyX2 tyX2_ok nmX2 rfl (fun w hw => am_tl (hinX2 w hw)) (by decide) (am_tl w_3_20) (Or.inr ⟨rfl, hm, rfl⟩) (fun _ => rfl) (fun h => absurd h (by decide))
theorem op_X2_1_54 (C : am_Cx p l R s m args meth c cc nL (c0 :: lw_good) RX2 D am_cl0 tc A rs am_zs0 hs ad0) (hm : meth.name = "<init>") : am_op p l e R s m args below meth c D am_cl0 tc A nL n0 ad0 cc (1, 54) (am_fput 2 2 0) := am_fput_ok (j := 2) (q := 0) (N := 20) (T := TX2) C tyX2 tyX2_ok nmX2 rfl (fun w hw => am_tl (hinX2 w hw)) (by decide) (am_tl w_3_21) (Or.inr ⟨rfl, hm, rfl⟩) (fun _ => rfl) (fun h => absurd h (by decide))
theorem op_X2_0_41 (C : am_Cx p l R s m args meth c cc nL (c0 :: lw_good) RX2 D am_cl0 tc A rs am_zs0 hs ad0) : am_op p l e R s m args below meth c D am_cl0 tc A nL n0 ad0 cc (0, 41) (am_fget 2 13) := am_fget_ok (j := 13) (N := 20) (T := TX2) C rfl (fun w hw => am_tl (hinX2 w hw)) (by decide) (am_tl w_3_32)
theorem op_X2_0_7 (C : am_Cx p l R s m args meth c cc nL (c0 :: lw_good) RX2 D am_cl0 tc A rs am_zs0 hs ad0) : am_op p l e R s m args below meth c D am_cl0 tc A nL n0 ad0 cc (0, 7) (am_fget 2 3) := am_fget_ok (j := 3) (N := 20) (T := TX2) C rfl (fun w hw => am_tl (hinX2 w hw)) (by decide) (am_tl w_3_22)
theorem op_X2_0_16 (C : am_Cx p l R s m args meth c cc nL (c0 :: lw_good) RX2 D am_cl0 tc A rs am_zs0 hs ad0) : am_op p l e R s m args below meth c D am_cl0 tc A nL n0 ad0 cc (0, 16) (am_fget 2 5) := am_fget_ok (j := 5) (N := 20) (T := TX2) C rfl (fun w hw => am_tl (hinX2 w hw)) (by decide) (am_tl w_3_24)
set_option maxRecDepth 10000 in
theorem op_X2_3_57 (C : am_Cx p l R s m args meth c cc nL (c0 :: lw_good) RX2 D am_cl0 tc A am_rs0 am_zs0 hs ad0) (hl : l.stackTraces = false) (hR : rm_X2_begin.frames + 1 ≤ R.frames ∧ 8 + (4 + 11) + rm_X2_begin.locals ≤ R.locals) : am_op p l e R s m args below meth c D am_cl0 tc A nL n0 ad0 cc (3, 57) (am_fcv (some 2) 3 F_X2_begin rm_X2_begin.cells rm_X2_begin.slots) := am_fcv_ok C (am_rn_V C rfl (M_X2_begin hl) rfl (am_gd wc_X2_begin) (am_tl w_3_11) (am_tl w_3_13) (am_tl (sl_X2_begin)) (am_tl w_1_5) (by decide +kernel) hR)
def X_X2_init : am_X := [((4, 1), am_fobj), ((8, 0), (am_fna 0)), ((1, 7), (am_fput 2 3 1)), ((1, 13), (am_fput 2 4 1)), ((1, 16), (am_fput 2 5 1)), ((1, 19), (am_fput 2 6 1)), ((1, 22), (am_fput 2 7 1)), ((1, 25), (am_fput 2 8 1)), ((1, 28), (am_fput 2 9 1)), ((1, 31), (am_fput 2 10 1)), ((8, 1), (am_fna 1)), ((1, 34), (am_fput 2 11 1)), ((1, 38), (am_fput 2 12 1)), ((1, 41), (am_fput 2 13 1)), ((1, 44), (am_fput 2 14 1)), ((1, 47), (am_fput 2 15 1)), ((1, 50), (am_fput 2 1 0)), ((1, 54), (am_fput 2 2 0)), ((0, 38), (am_fget 2 12)), ((0, 41), (am_fget 2 13)), ((0, 28), (am_fget 2 9)), ((0, 7), (am_fget 2 3)), ((0, 16), (am_fget 2 5)), ((3, 57), (am_fcv (some 2) 3 F_X2_begin rm_X2_begin.cells rm_X2_begin.slots))]
def F_X2_init : List am_V → am_H → Option am_O := am_fn T_X2_init X_X2_init 4 none am_rs0 [] [(160, [0, 3]), (181, [0, 3]), (202, [0, 3])] 400 (rm_X2_init.cells, rm_X2_init.slots)
theorem wc_X2_init : Cond.code y_X2_init prog_4_method_1_code 4 none ∈ lw_good := w_3_9
set_option maxRecDepth 100000 in
theorem M_X2_init {l : Launch} (hl : l.stackTraces = false) : am_M am_cl0 am_rs0 am_zs0 l y_X2_init (Cond.code y_X2_init prog_4_method_1_code 4 none :: lw_good) rm_X2_init (F_X2_init) := am_meth hl (by decide +kernel) (by decide +kernel) (am_okx fun p e s m args below meth c D tc A n0 ad0 C hm => List.forall_mem_cons.mpr ⟨op_X2_4_1 C ⟨by decide, by decide⟩, List.forall_mem_cons.mpr ⟨op_X2_8_0 C, List.forall_mem_cons.mpr ⟨op_X2_1_7 C hm, List.forall_mem_cons.mpr ⟨op_X2_1_13 C hm, List.forall_mem_cons.mpr ⟨op_X2_1_16 C hm, List.forall_mem_cons.mpr ⟨op_X2_1_19 C hm, List.forall_mem_cons.mpr ⟨op_X2_1_22 C hm, List.forall_mem_cons.mpr ⟨op_X2_1_25 C hm, List.forall_mem_cons.mpr ⟨op_X2_1_28 C hm, List.forall_mem_cons.mpr ⟨op_X2_1_31 C hm, List.forall_mem_cons.mpr ⟨op_X2_8_1 C, List.forall_mem_cons.mpr ⟨op_X2_1_34 C hm, List.forall_mem_cons.mpr ⟨op_X2_1_38 C hm, List.forall_mem_cons.mpr ⟨op_X2_1_41 C hm, List.forall_mem_cons.mpr ⟨op_X2_1_44 C hm, List.forall_mem_cons.mpr ⟨op_X2_1_47 C hm, List.forall_mem_cons.mpr ⟨op_X2_1_50 C hm, List.forall_mem_cons.mpr ⟨op_X2_1_54 C hm, List.forall_mem_cons.mpr ⟨op_X2_0_38 C, List.forall_mem_cons.mpr ⟨op_X2_0_41 C, List.forall_mem_cons.mpr ⟨op_X2_0_28 C, List.forall_mem_cons.mpr ⟨op_X2_0_7 C, List.forall_mem_cons.mpr ⟨op_X2_0_16 C, List.forall_mem_cons.mpr ⟨op_X2_3_57 C hl ⟨by decide, by decide⟩, fun q hq => nomatch hq⟩⟩⟩⟩⟩⟩⟩⟩⟩⟩⟩⟩⟩⟩⟩⟩⟩⟩⟩⟩⟩⟩⟩⟩)
theorem op_X2_0_61 (C : am_Cx p l R s m args meth c cc nL (c0 :: lw_good) RX2 D am_cl0 tc A rs am_zs0 hs ad0) : am_op p l e R s m args below meth c D am_cl0 tc A nL n0 ad0 cc (0, 61) (am_fget 2 0) := am_fget_ok (j := 0) (N := 20) (T := TX2) C rfl (fun w hw => am_tl (hinX2 w hw)) (by decide) (am_tl w_3_19)
def X_X2_thrown : am_X := [((0, 61), (am_fget 2 0))]
def F_X2_thrown : List am_V → am_H → Option am_O := am_fn T_X2_thrown X_X2_thrown 1 (some .int) am_rs0 [] [] 400 (rm_X2_thrown.cells, rm_X2_thrown.slots)
theorem wc_X2_thrown : Cond.code y_X2_thrown prog_4_method_2_code 1 (some .int) ∈ lw_good := w_3_83
set_option maxRecDepth 100000 in
theorem M_X2_thrown {l : Launch} (hl : l.stackTraces = false) : am_M am_cl0 am_rs0 am_zs0 l y_X2_thrown (Cond.code y_X2_thrown prog_4_method_2_code 1 (some .int) :: lw_good) rm_X2_thrown (F_X2_thrown) := am_meth hl (by decide +kernel) (by decide +kernel) (am_okx fun p e s m args below meth c D tc A n0 ad0 C hm => List.forall_mem_cons.mpr ⟨op_X2_0_61 C, fun q hq => nomatch hq⟩)
def X_X2_out : am_X := []
def F_X2_out : List am_V → am_H → Option am_O := am_fn T_X2_out X_X2_out 3 (some .boolean) am_rs0 [] [] 400 (rm_X2_out.cells, rm_X2_out.slots)
theorem wc_X2_out : Cond.code y_X2_out prog_4_method_4_code 3 (some .boolean) ∈ lw_good := w_3_91
theorem sl_X2_out : Cond.selects RX2 y_X2_out y_X2_out ∈ lw_good := am_inS (q := (y_X2_out, 20)) (List.mem_append_right _ (List.mem_append_left _ (List.mem_of_getElem? (i := 5) rfl)))
set_option maxRecDepth 100000 in
theorem M_X2_out {l : Launch} (hl : l.stackTraces = false) : am_M am_cl0 am_rs0 am_zs0 l y_X2_out (Cond.code y_X2_out prog_4_method_4_code 3 (some .boolean) :: lw_good) rm_X2_out (F_X2_out) := am_meth hl (by decide +kernel) (by decide +kernel) (am_okx fun p e s m args below meth c D tc A n0 ad0 C hm => fun q hq => nomatch hq)
theorem op_X2_1_61 (C : am_Cx p l R s m args meth c cc nL (c0 :: lw_good) RX2 D am_cl0 tc A rs am_zs0 hs ad0) : am_op p l e R s m args below meth c D am_cl0 tc A nL n0 ad0 cc (1, 61) (am_fput 2 0 0) := am_fput_ok (j := 0) (q := 0) (N := 20) (T := TX2) C tyX2 tyX2_ok nmX2 rfl (fun w hw => am_tl (hinX2 w hw)) (by decide) (am_tl w_3_19) (Or.inl rfl) (fun _ => rfl) (fun h => absurd h (by decide))
def X_X2_fail : am_X := [((1, 61), (am_fput 2 0 0))]
def F_X2_fail : List am_V → am_H → Option am_O := am_fn T_X2_fail X_X2_fail 2 (some .int) am_rs0 [] [] 400 (rm_X2_fail.cells, rm_X2_fail.slots)
theorem wc_X2_fail : Cond.code y_X2_fail prog_4_method_3_code 2 (some .int) ∈ lw_good := w_3_95
theorem sl_X2_fail : Cond.selects RX2 y_X2_fail y_X2_fail ∈ lw_good := am_inS (q := (y_X2_fail, 20)) (List.mem_append_right _ (List.mem_append_left _ (List.mem_of_getElem? (i := 6) rfl)))
set_option maxRecDepth 100000 in
theorem M_X2_fail {l : Launch} (hl : l.stackTraces = false) : am_M am_cl0 am_rs0 am_zs0 l y_X2_fail (Cond.code y_X2_fail prog_4_method_3_code 2 (some .int) :: lw_good) rm_X2_fail (F_X2_fail) := am_meth hl (by decide +kernel) (by decide +kernel) (am_okx fun p e s m args below meth c D tc A n0 ad0 C hm => List.forall_mem_cons.mpr ⟨op_X2_1_61 C, fun q hq => nomatch hq⟩)
def X_X2_notRunning : am_X := [((0, 7), (am_fget 2 3))]
def F_X2_notRunning : List am_V → am_H → Option am_O := am_fn T_X2_notRunning X_X2_notRunning 2 (some .boolean) am_rs0 [] [] 400 (rm_X2_notRunning.cells, rm_X2_notRunning.slots)
theorem wc_X2_notRunning : Cond.code y_X2_notRunning prog_4_method_5_code 2 (some .boolean) ∈ lw_good := w_3_99
theorem sl_X2_notRunning : Cond.selects RX2 y_X2_notRunning y_X2_notRunning ∈ lw_good := am_inS (q := (y_X2_notRunning, 20)) (List.mem_append_right _ (List.mem_append_left _ (List.mem_of_getElem? (i := 7) rfl)))
set_option maxRecDepth 100000 in
theorem M_X2_notRunning {l : Launch} (hl : l.stackTraces = false) : am_M am_cl0 am_rs0 am_zs0 l y_X2_notRunning (Cond.code y_X2_notRunning prog_4_method_5_code 2 (some .boolean) :: lw_good) rm_X2_notRunning (F_X2_notRunning) := am_meth hl (by decide +kernel) (by decide +kernel) (am_okx fun p e s m args below meth c D tc A n0 ad0 C hm => List.forall_mem_cons.mpr ⟨op_X2_0_7 C, fun q hq => nomatch hq⟩)
set_option maxRecDepth 10000 in
theorem op_X2_3_105 (C : am_Cx p l R s m args meth c cc nL (c0 :: lw_good) RX2 D am_cl0 tc A am_rs0 am_zs0 hs ad0) (hl : l.stackTraces = false) (hR : rm_X2_out.frames + 1 ≤ R.frames ∧ 8 + (3 + 11) + rm_X2_out.locals ≤ R.locals) : am_op p l e R s m args below meth c D am_cl0 tc A nL n0 ad0 cc (3, 105) (am_fci (some 2) 3 F_X2_out rm_X2_out.cells rm_X2_out.slots) := am_fci_ok C (am_rn_V C rfl (M_X2_out hl) rfl (am_gd wc_X2_out) (am_tl w_3_88) (am_tl w_3_90) (am_tl (sl_X2_out)) (am_tl w_1_5) (by decide +kernel) hR)
set_option maxRecDepth 10000 in
theorem op_X2_3_109 (C : am_Cx p l R s m args meth c cc nL (c0 :: lw_good) RX2 D am_cl0 tc A am_rs0 am_zs0 hs ad0) (hl : l.stackTraces = false) (hR : rm_X2_fail.frames + 1 ≤ R.frames ∧ 8 + (2 + 11) + rm_X2_fail.locals ≤ R.locals) : am_op p l e R s m args below meth c D am_cl0 tc A nL n0 ad0 cc (3, 109) (am_fci (some 2) 2 F_X2_fail rm_X2_fail.cells rm_X2_fail.slots) := am_fci_ok C (am_rn_V C rfl (M_X2_fail hl) rfl (am_gd wc_X2_fail) (am_tl w_3_92) (am_tl w_3_94) (am_tl (sl_X2_fail)) (am_tl w_1_5) (by decide +kernel) hR)
set_option maxRecDepth 10000 in
theorem op_X2_3_112 (C : am_Cx p l R s m args meth c cc nL (c0 :: lw_good) RX2 D am_cl0 tc A am_rs0 am_zs0 hs ad0) (hl : l.stackTraces = false) (hR : rm_X2_notRunning.frames + 1 ≤ R.frames ∧ 8 + (2 + 11) + rm_X2_notRunning.locals ≤ R.locals) : am_op p l e R s m args below meth c D am_cl0 tc A nL n0 ad0 cc (3, 112) (am_fci (some 2) 2 F_X2_notRunning rm_X2_notRunning.cells rm_X2_notRunning.slots) := am_fci_ok C (am_rn_V C rfl (M_X2_notRunning hl) rfl (am_gd wc_X2_notRunning) (am_tl w_3_96) (am_tl w_3_98) (am_tl (sl_X2_notRunning)) (am_tl w_1_5) (by decide +kernel) hR)
def X_X2_fork : am_X := [((1, 61), (am_fput 2 0 0)), ((3, 105), (am_fci (some 2) 3 F_X2_out rm_X2_out.cells rm_X2_out.slots)), ((3, 109), (am_fci (some 2) 2 F_X2_fail rm_X2_fail.cells rm_X2_fail.slots)), ((3, 112), (am_fci (some 2) 2 F_X2_notRunning rm_X2_notRunning.cells rm_X2_notRunning.slots)), ((0, 7), (am_fget 2 3)), ((0, 16), (am_fget 2 5)), ((0, 13), (am_fget 2 4)), ((0, 22), (am_fget 2 7)), ((0, 25), (am_fget 2 8)), ((0, 28), (am_fget 2 9))]
def F_X2_fork : List am_V → am_H → Option am_O := am_fn T_X2_fork X_X2_fork 4 (some .int) am_rs0 [] [(37, [0, 1, 2]), (122, [0, 1, 2, 3])] 400 (rm_X2_fork.cells, rm_X2_fork.slots)
theorem wc_X2_fork : Cond.code y_X2_fork prog_4_method_18_code 4 (some .int) ∈ lw_good := w_3_87
set_option maxRecDepth 100000 in
theorem M_X2_fork {l : Launch} (hl : l.stackTraces = false) : am_M am_cl0 am_rs0 am_zs0 l y_X2_fork (Cond.code y_X2_fork prog_4_method_18_code 4 (some .int) :: lw_good) rm_X2_fork (F_X2_fork) := am_meth hl (by decide +kernel) (by decide +kernel) (am_okx fun p e s m args below meth c D tc A n0 ad0 C hm => List.forall_mem_cons.mpr ⟨op_X2_1_61 C, List.forall_mem_cons.mpr ⟨op_X2_3_105 C hl ⟨by decide, by decide⟩, List.forall_mem_cons.mpr ⟨op_X2_3_109 C hl ⟨by decide, by decide⟩, List.forall_mem_cons.mpr ⟨op_X2_3_112 C hl ⟨by decide, by decide⟩, List.forall_mem_cons.mpr ⟨op_X2_0_7 C, List.forall_mem_cons.mpr ⟨op_X2_0_16 C, List.forall_mem_cons.mpr ⟨op_X2_0_13 C, List.forall_mem_cons.mpr ⟨op_X2_0_22 C, List.forall_mem_cons.mpr ⟨op_X2_0_25 C, List.forall_mem_cons.mpr ⟨op_X2_0_28 C, fun q hq => nomatch hq⟩⟩⟩⟩⟩⟩⟩⟩⟩⟩)
def X_X2_drop : am_X := [((0, 28), (am_fget 2 9))]
def F_X2_drop : List am_V → am_H → Option am_O := am_fn T_X2_drop X_X2_drop 3 none am_rs0 [] [(2, [0, 1, 2])] 400 (rm_X2_drop.cells, rm_X2_drop.slots)
theorem wc_X2_drop : Cond.code y_X2_drop prog_4_method_19_code 3 none ∈ lw_good := w_3_107
theorem sl_X2_drop : Cond.selects RX2 y_X2_drop y_X2_drop ∈ lw_good := am_inS (q := (y_X2_drop, 20)) (List.mem_append_right _ (List.mem_append_left _ (List.mem_of_getElem? (i := 8) rfl)))
set_option maxRecDepth 100000 in
theorem M_X2_drop {l : Launch} (hl : l.stackTraces = false) : am_M am_cl0 am_rs0 am_zs0 l y_X2_drop (Cond.code y_X2_drop prog_4_method_19_code 3 none :: lw_good) rm_X2_drop (F_X2_drop) := am_meth hl (by decide +kernel) (by decide +kernel) (am_okx fun p e s m args below meth c D tc A n0 ad0 C hm => List.forall_mem_cons.mpr ⟨op_X2_0_28 C, fun q hq => nomatch hq⟩)
def X_X2_owners : am_X := [((0, 7), (am_fget 2 3)), ((0, 13), (am_fget 2 4)), ((0, 28), (am_fget 2 9))]
def F_X2_owners : List am_V → am_H → Option am_O := am_fn T_X2_owners X_X2_owners 4 (some .int) am_rs0 [] [(10, [0, 1, 2, 3]), (59, [0, 1, 2, 3])] 400 (rm_X2_owners.cells, rm_X2_owners.slots)
theorem wc_X2_owners : Cond.code y_X2_owners prog_4_method_7_code 4 (some .int) ∈ lw_good := w_3_115
theorem sl_X2_owners : Cond.selects RX2 y_X2_owners y_X2_owners ∈ lw_good := am_inS (q := (y_X2_owners, 20)) (List.mem_append_right _ (List.mem_append_left _ (List.mem_of_getElem? (i := 10) rfl)))
set_option maxRecDepth 100000 in
theorem M_X2_owners {l : Launch} (hl : l.stackTraces = false) : am_M am_cl0 am_rs0 am_zs0 l y_X2_owners (Cond.code y_X2_owners prog_4_method_7_code 4 (some .int) :: lw_good) rm_X2_owners (F_X2_owners) := am_meth hl (by decide +kernel) (by decide +kernel) (am_okx fun p e s m args below meth c D tc A n0 ad0 C hm => List.forall_mem_cons.mpr ⟨op_X2_0_7 C, List.forall_mem_cons.mpr ⟨op_X2_0_13 C, List.forall_mem_cons.mpr ⟨op_X2_0_28 C, fun q hq => nomatch hq⟩⟩⟩)
theorem op_X2_0_47 (C : am_Cx p l R s m args meth c cc nL (c0 :: lw_good) RX2 D am_cl0 tc A rs am_zs0 hs ad0) : am_op p l e R s m args below meth c D am_cl0 tc A nL n0 ad0 cc (0, 47) (am_fget 2 15) := am_fget_ok (j := 15) (N := 20) (T := TX2) C rfl (fun w hw => am_tl (hinX2 w hw)) (by decide) (am_tl w_3_34)
def X_X2_leave : am_X := [((0, 38), (am_fget 2 12)), ((0, 47), (am_fget 2 15)), ((0, 41), (am_fget 2 13)), ((0, 34), (am_fget 2 11))]
def F_X2_leave : List am_V → am_H → Option am_O := am_fn T_X2_leave X_X2_leave 2 none am_rs0 [] [] 400 (rm_X2_leave.cells, rm_X2_leave.slots)
theorem wc_X2_leave : Cond.code y_X2_leave prog_4_method_8_code 2 none ∈ lw_good := w_3_119
theorem sl_X2_leave : Cond.selects RX2 y_X2_leave y_X2_leave ∈ lw_good := am_inS (q := (y_X2_leave, 20)) (List.mem_append_right _ (List.mem_append_left _ (List.mem_of_getElem? (i := 11) rfl)))
set_option maxRecDepth 100000 in
theorem M_X2_leave {l : Launch} (hl : l.stackTraces = false) : am_M am_cl0 am_rs0 am_zs0 l y_X2_leave (Cond.code y_X2_leave prog_4_method_8_code 2 none :: lw_good) rm_X2_leave (F_X2_leave) := am_meth hl (by decide +kernel) (by decide +kernel) (am_okx fun p e s m args below meth c D tc A n0 ad0 C hm => List.forall_mem_cons.mpr ⟨op_X2_0_38 C, List.forall_mem_cons.mpr ⟨op_X2_0_47 C, List.forall_mem_cons.mpr ⟨op_X2_0_41 C, List.forall_mem_cons.mpr ⟨op_X2_0_34 C, fun q hq => nomatch hq⟩⟩⟩⟩)
set_option maxRecDepth 10000 in
theorem op_X2_3_64 (C : am_Cx p l R s m args meth c cc nL (c0 :: lw_good) RX2 D am_cl0 tc A am_rs0 am_zs0 hs ad0) (hl : l.stackTraces = false) (hR : rm_X2_owners.frames + 1 ≤ R.frames ∧ 8 + (4 + 11) + rm_X2_owners.locals ≤ R.locals) : am_op p l e R s m args below meth c D am_cl0 tc A nL n0 ad0 cc (3, 64) (am_fci (some 2) 2 F_X2_owners rm_X2_owners.cells rm_X2_owners.slots) := am_fci_ok C (am_rn_V C rfl (M_X2_owners hl) rfl (am_gd wc_X2_owners) (am_tl w_3_112) (am_tl w_3_114) (am_tl (sl_X2_owners)) (am_tl w_1_5) (by decide +kernel) hR)
set_option maxRecDepth 10000 in
theorem op_X2_3_68 (C : am_Cx p l R s m args meth c cc nL (c0 :: lw_good) RX2 D am_cl0 tc A am_rs0 am_zs0 hs ad0) (hl : l.stackTraces = false) (hR : rm_X2_leave.frames + 1 ≤ R.frames ∧ 8 + (2 + 11) + rm_X2_leave.locals ≤ R.locals) : am_op p l e R s m args below meth c D am_cl0 tc A nL n0 ad0 cc (3, 68) (am_fcv (some 2) 2 F_X2_leave rm_X2_leave.cells rm_X2_leave.slots) := am_fcv_ok C (am_rn_V C rfl (M_X2_leave hl) rfl (am_gd wc_X2_leave) (am_tl w_3_116) (am_tl w_3_118) (am_tl (sl_X2_leave)) (am_tl w_1_5) (by decide +kernel) hR)
def X_X2_clean : am_X := [((0, 34), (am_fget 2 11)), ((3, 64), (am_fci (some 2) 2 F_X2_owners rm_X2_owners.cells rm_X2_owners.slots)), ((3, 68), (am_fcv (some 2) 2 F_X2_leave rm_X2_leave.cells rm_X2_leave.slots))]
def F_X2_clean : List am_V → am_H → Option am_O := am_fn T_X2_clean X_X2_clean 2 none am_rs0 [] [(2, [0, 1])] 400 (rm_X2_clean.cells, rm_X2_clean.slots)
theorem wc_X2_clean : Cond.code y_X2_clean prog_4_method_9_code 2 none ∈ lw_good := w_3_111
theorem sl_X2_clean : Cond.selects RX2 y_X2_clean y_X2_clean ∈ lw_good := am_inS (q := (y_X2_clean, 20)) (List.mem_append_right _ (List.mem_append_left _ (List.mem_of_getElem? (i := 9) rfl)))
set_option maxRecDepth 100000 in
theorem M_X2_clean {l : Launch} (hl : l.stackTraces = false) : am_M am_cl0 am_rs0 am_zs0 l y_X2_clean (Cond.code y_X2_clean prog_4_method_9_code 2 none :: lw_good) rm_X2_clean (F_X2_clean) := am_meth hl (by decide +kernel) (by decide +kernel) (am_okx fun p e s m args below meth c D tc A n0 ad0 C hm => List.forall_mem_cons.mpr ⟨op_X2_0_34 C, List.forall_mem_cons.mpr ⟨op_X2_3_64 C hl ⟨by decide, by decide⟩, List.forall_mem_cons.mpr ⟨op_X2_3_68 C hl ⟨by decide, by decide⟩, fun q hq => nomatch hq⟩⟩⟩)
set_option maxRecDepth 10000 in
theorem op_X2_3_115 (C : am_Cx p l R s m args meth c cc nL (c0 :: lw_good) RX2 D am_cl0 tc A am_rs0 am_zs0 hs ad0) (hl : l.stackTraces = false) (hR : rm_X2_drop.frames + 1 ≤ R.frames ∧ 8 + (3 + 11) + rm_X2_drop.locals ≤ R.locals) : am_op p l e R s m args below meth c D am_cl0 tc A nL n0 ad0 cc (3, 115) (am_fcv (some 2) 2 F_X2_drop rm_X2_drop.cells rm_X2_drop.slots) := am_fcv_ok C (am_rn_V C rfl (M_X2_drop hl) rfl (am_gd wc_X2_drop) (am_tl w_3_104) (am_tl w_3_106) (am_tl (sl_X2_drop)) (am_tl w_1_5) (by decide +kernel) hR)
set_option maxRecDepth 10000 in
theorem op_X2_3_118 (C : am_Cx p l R s m args meth c cc nL (c0 :: lw_good) RX2 D am_cl0 tc A am_rs0 am_zs0 hs ad0) (hl : l.stackTraces = false) (hR : rm_X2_clean.frames + 1 ≤ R.frames ∧ 8 + (2 + 11) + rm_X2_clean.locals ≤ R.locals) : am_op p l e R s m args below meth c D am_cl0 tc A nL n0 ad0 cc (3, 118) (am_fcv (some 2) 1 F_X2_clean rm_X2_clean.cells rm_X2_clean.slots) := am_fcv_ok C (am_rn_V C rfl (M_X2_clean hl) rfl (am_gd wc_X2_clean) (am_tl w_3_108) (am_tl w_3_110) (am_tl (sl_X2_clean)) (am_tl w_1_5) (by decide +kernel) hR)
def X_X2_exec : am_X := [((1, 61), (am_fput 2 0 0)), ((3, 105), (am_fci (some 2) 3 F_X2_out rm_X2_out.cells rm_X2_out.slots)), ((3, 109), (am_fci (some 2) 2 F_X2_fail rm_X2_fail.cells rm_X2_fail.slots)), ((3, 112), (am_fci (some 2) 2 F_X2_notRunning rm_X2_notRunning.cells rm_X2_notRunning.slots)), ((3, 115), (am_fcv (some 2) 2 F_X2_drop rm_X2_drop.cells rm_X2_drop.slots)), ((0, 13), (am_fget 2 4)), ((3, 118), (am_fcv (some 2) 1 F_X2_clean rm_X2_clean.cells rm_X2_clean.slots)), ((3, 57), (am_fcv (some 2) 3 F_X2_begin rm_X2_begin.cells rm_X2_begin.slots)), ((0, 22), (am_fget 2 7))]
def F_X2_exec : List am_V → am_H → Option am_O := am_fn T_X2_exec X_X2_exec 3 (some .int) am_rs0 [] [] 400 (rm_X2_exec.cells, rm_X2_exec.slots)
theorem wc_X2_exec : Cond.code y_X2_exec prog_4_method_20_code 3 (some .int) ∈ lw_good := w_3_103
set_option maxRecDepth 100000 in
theorem M_X2_exec {l : Launch} (hl : l.stackTraces = false) : am_M am_cl0 am_rs0 am_zs0 l y_X2_exec (Cond.code y_X2_exec prog_4_method_20_code 3 (some .int) :: lw_good) rm_X2_exec (F_X2_exec) := am_meth hl (by decide +kernel) (by decide +kernel) (am_okx fun p e s m args below meth c D tc A n0 ad0 C hm => List.forall_mem_cons.mpr ⟨op_X2_1_61 C, List.forall_mem_cons.mpr ⟨op_X2_3_105 C hl ⟨by decide, by decide⟩, List.forall_mem_cons.mpr ⟨op_X2_3_109 C hl ⟨by decide, by decide⟩, List.forall_mem_cons.mpr ⟨op_X2_3_112 C hl ⟨by decide, by decide⟩, List.forall_mem_cons.mpr ⟨op_X2_3_115 C hl ⟨by decide, by decide⟩, List.forall_mem_cons.mpr ⟨op_X2_0_13 C, List.forall_mem_cons.mpr ⟨op_X2_3_118 C hl ⟨by decide, by decide⟩, List.forall_mem_cons.mpr ⟨op_X2_3_57 C hl ⟨by decide, by decide⟩, List.forall_mem_cons.mpr ⟨op_X2_0_22 C, fun q hq => nomatch hq⟩⟩⟩⟩⟩⟩⟩⟩⟩)
theorem op_X2_0_19 (C : am_Cx p l R s m args meth c cc nL (c0 :: lw_good) RX2 D am_cl0 tc A rs am_zs0 hs ad0) : am_op p l e R s m args below meth c D am_cl0 tc A nL n0 ad0 cc (0, 19) (am_fget 2 6) := am_fget_ok (j := 6) (N := 20) (T := TX2) C rfl (fun w hw => am_tl (hinX2 w hw)) (by decide) (am_tl w_3_25)
def X_X2_exit : am_X := [((1, 61), (am_fput 2 0 0)), ((3, 105), (am_fci (some 2) 3 F_X2_out rm_X2_out.cells rm_X2_out.slots)), ((3, 109), (am_fci (some 2) 2 F_X2_fail rm_X2_fail.cells rm_X2_fail.slots)), ((3, 112), (am_fci (some 2) 2 F_X2_notRunning rm_X2_notRunning.cells rm_X2_notRunning.slots)), ((0, 7), (am_fget 2 3)), ((0, 19), (am_fget 2 6)), ((3, 115), (am_fcv (some 2) 2 F_X2_drop rm_X2_drop.cells rm_X2_drop.slots)), ((3, 118), (am_fcv (some 2) 1 F_X2_clean rm_X2_clean.cells rm_X2_clean.slots)), ((0, 16), (am_fget 2 5))]
def F_X2_exit : List am_V → am_H → Option am_O := am_fn T_X2_exit X_X2_exit 5 (some .int) am_rs0 [] [(74, [0, 1, 3, 4])] 400 (rm_X2_exit.cells, rm_X2_exit.slots)
theorem wc_X2_exit : Cond.code y_X2_exit prog_4_method_21_code 5 (some .int) ∈ lw_good := w_3_123
set_option maxRecDepth 100000 in
theorem M_X2_exit {l : Launch} (hl : l.stackTraces = false) : am_M am_cl0 am_rs0 am_zs0 l y_X2_exit (Cond.code y_X2_exit prog_4_method_21_code 5 (some .int) :: lw_good) rm_X2_exit (F_X2_exit) := am_meth hl (by decide +kernel) (by decide +kernel) (am_okx fun p e s m args below meth c D tc A n0 ad0 C hm => List.forall_mem_cons.mpr ⟨op_X2_1_61 C, List.forall_mem_cons.mpr ⟨op_X2_3_105 C hl ⟨by decide, by decide⟩, List.forall_mem_cons.mpr ⟨op_X2_3_109 C hl ⟨by decide, by decide⟩, List.forall_mem_cons.mpr ⟨op_X2_3_112 C hl ⟨by decide, by decide⟩, List.forall_mem_cons.mpr ⟨op_X2_0_7 C, List.forall_mem_cons.mpr ⟨op_X2_0_19 C, List.forall_mem_cons.mpr ⟨op_X2_3_115 C hl ⟨by decide, by decide⟩, List.forall_mem_cons.mpr ⟨op_X2_3_118 C hl ⟨by decide, by decide⟩, List.forall_mem_cons.mpr ⟨op_X2_0_16 C, fun q hq => nomatch hq⟩⟩⟩⟩⟩⟩⟩⟩⟩)
def X_X2_await : am_X := [((1, 61), (am_fput 2 0 0)), ((3, 105), (am_fci (some 2) 3 F_X2_out rm_X2_out.cells rm_X2_out.slots)), ((3, 109), (am_fci (some 2) 2 F_X2_fail rm_X2_fail.cells rm_X2_fail.slots)), ((3, 112), (am_fci (some 2) 2 F_X2_notRunning rm_X2_notRunning.cells rm_X2_notRunning.slots)), ((0, 7), (am_fget 2 3)), ((0, 16), (am_fget 2 5)), ((0, 19), (am_fget 2 6))]
def F_X2_await : List am_V → am_H → Option am_O := am_fn T_X2_await X_X2_await 5 (some .int) am_rs0 [] [(42, [0, 1, 2, 3, 4])] 400 (rm_X2_await.cells, rm_X2_await.slots)
theorem wc_X2_await : Cond.code y_X2_await prog_4_method_22_code 5 (some .int) ∈ lw_good := w_3_127
set_option maxRecDepth 100000 in
theorem M_X2_await {l : Launch} (hl : l.stackTraces = false) : am_M am_cl0 am_rs0 am_zs0 l y_X2_await (Cond.code y_X2_await prog_4_method_22_code 5 (some .int) :: lw_good) rm_X2_await (F_X2_await) := am_meth hl (by decide +kernel) (by decide +kernel) (am_okx fun p e s m args below meth c D tc A n0 ad0 C hm => List.forall_mem_cons.mpr ⟨op_X2_1_61 C, List.forall_mem_cons.mpr ⟨op_X2_3_105 C hl ⟨by decide, by decide⟩, List.forall_mem_cons.mpr ⟨op_X2_3_109 C hl ⟨by decide, by decide⟩, List.forall_mem_cons.mpr ⟨op_X2_3_112 C hl ⟨by decide, by decide⟩, List.forall_mem_cons.mpr ⟨op_X2_0_7 C, List.forall_mem_cons.mpr ⟨op_X2_0_16 C, List.forall_mem_cons.mpr ⟨op_X2_0_19 C, fun q hq => nomatch hq⟩⟩⟩⟩⟩⟩⟩)
def X_X2_grow : am_X := [((1, 61), (am_fput 2 0 0)), ((3, 105), (am_fci (some 2) 3 F_X2_out rm_X2_out.cells rm_X2_out.slots)), ((3, 109), (am_fci (some 2) 2 F_X2_fail rm_X2_fail.cells rm_X2_fail.slots)), ((3, 112), (am_fci (some 2) 2 F_X2_notRunning rm_X2_notRunning.cells rm_X2_notRunning.slots)), ((0, 22), (am_fget 2 7)), ((0, 28), (am_fget 2 9)), ((3, 72), (am_fci (some 2) 1 F_X2_newPage rm_X2_newPage.cells rm_X2_newPage.slots)), ((3, 118), (am_fcv (some 2) 1 F_X2_clean rm_X2_clean.cells rm_X2_clean.slots))]
def F_X2_grow : List am_V → am_H → Option am_O := am_fn T_X2_grow X_X2_grow 5 (some .int) am_rs0 [] [(75, [0, 1, 3, 4])] 400 (rm_X2_grow.cells, rm_X2_grow.slots)
theorem wc_X2_grow : Cond.code y_X2_grow prog_4_method_23_code 5 (some .int) ∈ lw_good := w_3_131
set_option maxRecDepth 100000 in
theorem M_X2_grow {l : Launch} (hl : l.stackTraces = false) : am_M am_cl0 am_rs0 am_zs0 l y_X2_grow (Cond.code y_X2_grow prog_4_method_23_code 5 (some .int) :: lw_good) rm_X2_grow (F_X2_grow) := am_meth hl (by decide +kernel) (by decide +kernel) (am_okx fun p e s m args below meth c D tc A n0 ad0 C hm => List.forall_mem_cons.mpr ⟨op_X2_1_61 C, List.forall_mem_cons.mpr ⟨op_X2_3_105 C hl ⟨by decide, by decide⟩, List.forall_mem_cons.mpr ⟨op_X2_3_109 C hl ⟨by decide, by decide⟩, List.forall_mem_cons.mpr ⟨op_X2_3_112 C hl ⟨by decide, by decide⟩, List.forall_mem_cons.mpr ⟨op_X2_0_22 C, List.forall_mem_cons.mpr ⟨op_X2_0_28 C, List.forall_mem_cons.mpr ⟨op_X2_3_72 C hl ⟨by decide, by decide⟩, List.forall_mem_cons.mpr ⟨op_X2_3_118 C hl ⟨by decide, by decide⟩, fun q hq => nomatch hq⟩⟩⟩⟩⟩⟩⟩⟩)
def X_X2_growStack : am_X := [((0, 28), (am_fget 2 9)), ((3, 72), (am_fci (some 2) 1 F_X2_newPage rm_X2_newPage.cells rm_X2_newPage.slots)), ((0, 25), (am_fget 2 8))]
def F_X2_growStack : List am_V → am_H → Option am_O := am_fn T_X2_growStack X_X2_growStack 4 none am_rs0 [] [(9, [0, 1, 2, 3])] 400 (rm_X2_growStack.cells, rm_X2_growStack.slots)
theorem wc_X2_growStack : Cond.code y_X2_growStack prog_4_method_25_code 4 none ∈ lw_good := w_3_139
theorem sl_X2_growStack : Cond.selects RX2 y_X2_growStack y_X2_growStack ∈ lw_good := am_inS (q := (y_X2_growStack, 20)) (List.mem_append_right _ (List.mem_append_left _ (List.mem_of_getElem? (i := 12) rfl)))
set_option maxRecDepth 100000 in
theorem M_X2_growStack {l : Launch} (hl : l.stackTraces = false) : am_M am_cl0 am_rs0 am_zs0 l y_X2_growStack (Cond.code y_X2_growStack prog_4_method_25_code 4 none :: lw_good) rm_X2_growStack (F_X2_growStack) := am_meth hl (by decide +kernel) (by decide +kernel) (am_okx fun p e s m args below meth c D tc A n0 ad0 C hm => List.forall_mem_cons.mpr ⟨op_X2_0_28 C, List.forall_mem_cons.mpr ⟨op_X2_3_72 C hl ⟨by decide, by decide⟩, List.forall_mem_cons.mpr ⟨op_X2_0_25 C, fun q hq => nomatch hq⟩⟩⟩)
def X_X2_pageOf : am_X := [((0, 13), (am_fget 2 4)), ((0, 28), (am_fget 2 9))]
def F_X2_pageOf : List am_V → am_H → Option am_O := am_fn T_X2_pageOf X_X2_pageOf 3 (some .int) am_rs0 [] [] 400 (rm_X2_pageOf.cells, rm_X2_pageOf.slots)
theorem wc_X2_pageOf : Cond.code y_X2_pageOf prog_4_method_24_code 3 (some .int) ∈ lw_good := w_3_143
theorem sl_X2_pageOf : Cond.selects RX2 y_X2_pageOf y_X2_pageOf ∈ lw_good := am_inS (q := (y_X2_pageOf, 20)) (List.mem_append_right _ (List.mem_append_left _ (List.mem_of_getElem? (i := 13) rfl)))
set_option maxRecDepth 100000 in
theorem M_X2_pageOf {l : Launch} (hl : l.stackTraces = false) : am_M am_cl0 am_rs0 am_zs0 l y_X2_pageOf (Cond.code y_X2_pageOf prog_4_method_24_code 3 (some .int) :: lw_good) rm_X2_pageOf (F_X2_pageOf) := am_meth hl (by decide +kernel) (by decide +kernel) (am_okx fun p e s m args below meth c D tc A n0 ad0 C hm => List.forall_mem_cons.mpr ⟨op_X2_0_13 C, List.forall_mem_cons.mpr ⟨op_X2_0_28 C, fun q hq => nomatch hq⟩⟩)
theorem op_X2_0_54 (C : am_Cx p l R s m args meth c cc nL (c0 :: lw_good) RX2 D am_cl0 tc A rs am_zs0 hs ad0) : am_op p l e R s m args below meth c D am_cl0 tc A nL n0 ad0 cc (0, 54) (am_fget 2 2) := am_fget_ok (j := 2) (N := 20) (T := TX2) C rfl (fun w hw => am_tl (hinX2 w hw)) (by decide) (am_tl w_3_21)
def X_X2_freeSlot : am_X := [((0, 54), (am_fget 2 2)), ((0, 47), (am_fget 2 15))]
def F_X2_freeSlot : List am_V → am_H → Option am_O := am_fn T_X2_freeSlot X_X2_freeSlot 2 (some .int) am_rs0 [] [(2, [0, 1])] 400 (rm_X2_freeSlot.cells, rm_X2_freeSlot.slots)
theorem wc_X2_freeSlot : Cond.code y_X2_freeSlot prog_4_method_11_code 2 (some .int) ∈ lw_good := w_3_163
theorem sl_X2_freeSlot : Cond.selects RX2 y_X2_freeSlot y_X2_freeSlot ∈ lw_good := am_inS (q := (y_X2_freeSlot, 20)) (List.mem_append_right _ (List.mem_append_right _ (List.mem_of_getElem? (i := 2) rfl)))
set_option maxRecDepth 100000 in
theorem M_X2_freeSlot {l : Launch} (hl : l.stackTraces = false) : am_M am_cl0 am_rs0 am_zs0 l y_X2_freeSlot (Cond.code y_X2_freeSlot prog_4_method_11_code 2 (some .int) :: lw_good) rm_X2_freeSlot (F_X2_freeSlot) := am_meth hl (by decide +kernel) (by decide +kernel) (am_okx fun p e s m args below meth c D tc A n0 ad0 C hm => List.forall_mem_cons.mpr ⟨op_X2_0_54 C, List.forall_mem_cons.mpr ⟨op_X2_0_47 C, fun q hq => nomatch hq⟩⟩)
set_option maxRecDepth 10000 in
theorem op_X2_3_76 (C : am_Cx p l R s m args meth c cc nL (c0 :: lw_good) RX2 D am_cl0 tc A am_rs0 am_zs0 hs ad0) (hl : l.stackTraces = false) (hR : rm_X2_freeSlot.frames + 1 ≤ R.frames ∧ 8 + (2 + 11) + rm_X2_freeSlot.locals ≤ R.locals) : am_op p l e R s m args below meth c D am_cl0 tc A nL n0 ad0 cc (3, 76) (am_fci (some 2) 1 F_X2_freeSlot rm_X2_freeSlot.cells rm_X2_freeSlot.slots) := am_fci_ok C (am_rn_V C rfl (M_X2_freeSlot hl) rfl (am_gd wc_X2_freeSlot) (am_tl w_3_160) (am_tl w_3_162) (am_tl (sl_X2_freeSlot)) (am_tl w_1_5) (by decide +kernel) hR)
def X_X2_canGo : am_X := [((3, 76), (am_fci (some 2) 1 F_X2_freeSlot rm_X2_freeSlot.cells rm_X2_freeSlot.slots))]
def F_X2_canGo : List am_V → am_H → Option am_O := am_fn T_X2_canGo X_X2_canGo 2 (some .boolean) am_rs0 [] [] 400 (rm_X2_canGo.cells, rm_X2_canGo.slots)
theorem wc_X2_canGo : Cond.code y_X2_canGo prog_4_method_12_code 2 (some .boolean) ∈ lw_good := w_3_159
theorem sl_X2_canGo : Cond.selects RX2 y_X2_canGo y_X2_canGo ∈ lw_good := am_inS (q := (y_X2_canGo, 20)) (List.mem_append_right _ (List.mem_append_right _ (List.mem_of_getElem? (i := 1) rfl)))
set_option maxRecDepth 100000 in
theorem M_X2_canGo {l : Launch} (hl : l.stackTraces = false) : am_M am_cl0 am_rs0 am_zs0 l y_X2_canGo (Cond.code y_X2_canGo prog_4_method_12_code 2 (some .boolean) :: lw_good) rm_X2_canGo (F_X2_canGo) := am_meth hl (by decide +kernel) (by decide +kernel) (am_okx fun p e s m args below meth c D tc A n0 ad0 C hm => List.forall_mem_cons.mpr ⟨op_X2_3_76 C hl ⟨by decide, by decide⟩, fun q hq => nomatch hq⟩)
theorem op_X2_0_79 (C : am_Cx p l R s m args meth c cc nL (c0 :: lw_good) RX2 D am_cl0 tc A rs am_zs0 hs ad0) : am_op p l e R s m args below meth c D am_cl0 tc A nL n0 ad0 cc (0, 79) (am_fget 2 19) := am_fget_ok (j := 19) (N := 20) (T := TX2) C rfl (fun w hw => am_tl (hinX2 w hw)) (by decide) (am_tl w_3_38)
theorem op_X2_1_79 (C : am_Cx p l R s m args meth c cc nL (c0 :: lw_good) RX2 D am_cl0 tc A rs am_zs0 hs ad0) : am_op p l e R s m args below meth c D am_cl0 tc A nL n0 ad0 cc (1, 79) (am_fput 2 19 0) := am_fput_ok (j := 19) (q := 0) (N := 20) (T := TX2) C tyX2 tyX2_ok nmX2 rfl (fun w hw => am_tl (hinX2 w hw)) (by decide) (am_tl w_3_38) (Or.inl rfl) (fun _ => rfl) (fun h => absurd h (by decide))
def X_X2_sendOut : am_X := [((0, 41), (am_fget 2 13)), ((0, 38), (am_fget 2 12)), ((0, 79), (am_fget 2 19)), ((1, 79), (am_fput 2 19 0)), ((3, 76), (am_fci (some 2) 1 F_X2_freeSlot rm_X2_freeSlot.cells rm_X2_freeSlot.slots)), ((0, 47), (am_fget 2 15))]
def F_X2_sendOut : List am_V → am_H → Option am_O := am_fn T_X2_sendOut X_X2_sendOut 3 none am_rs0 [] [] 400 (rm_X2_sendOut.cells, rm_X2_sendOut.slots)
theorem wc_X2_sendOut : Cond.code y_X2_sendOut prog_4_method_13_code 3 none ∈ lw_good := w_3_167
theorem sl_X2_sendOut : Cond.selects RX2 y_X2_sendOut y_X2_sendOut ∈ lw_good := am_inS (q := (y_X2_sendOut, 20)) (List.mem_append_right _ (List.mem_append_right _ (List.mem_of_getElem? (i := 3) rfl)))
set_option maxRecDepth 100000 in
theorem M_X2_sendOut {l : Launch} (hl : l.stackTraces = false) : am_M am_cl0 am_rs0 am_zs0 l y_X2_sendOut (Cond.code y_X2_sendOut prog_4_method_13_code 3 none :: lw_good) rm_X2_sendOut (F_X2_sendOut) := am_meth hl (by decide +kernel) (by decide +kernel) (am_okx fun p e s m args below meth c D tc A n0 ad0 C hm => List.forall_mem_cons.mpr ⟨op_X2_0_41 C, List.forall_mem_cons.mpr ⟨op_X2_0_38 C, List.forall_mem_cons.mpr ⟨op_X2_0_79 C, List.forall_mem_cons.mpr ⟨op_X2_1_79 C, List.forall_mem_cons.mpr ⟨op_X2_3_76 C hl ⟨by decide, by decide⟩, List.forall_mem_cons.mpr ⟨op_X2_0_47 C, fun q hq => nomatch hq⟩⟩⟩⟩⟩⟩)
theorem op_X2_0_82 (C : am_Cx p l R s m args meth c cc nL (c0 :: lw_good) RX2 D am_cl0 tc A rs am_zs0 hs ad0) : am_op p l e R s m args below meth c D am_cl0 tc A nL n0 ad0 cc (0, 82) (am_fget 2 16) := am_fget_ok (j := 16) (N := 20) (T := TX2) C rfl (fun w hw => am_tl (hinX2 w hw)) (by decide) (am_tl w_3_35)
theorem op_X2_0_50 (C : am_Cx p l R s m args meth c cc nL (c0 :: lw_good) RX2 D am_cl0 tc A rs am_zs0 hs ad0) : am_op p l e R s m args below meth c D am_cl0 tc A nL n0 ad0 cc (0, 50) (am_fget 2 1) := am_fget_ok (j := 1) (N := 20) (T := TX2) C rfl (fun w hw => am_tl (hinX2 w hw)) (by decide) (am_tl w_3_20)
theorem op_X2_1_82 (C : am_Cx p l R s m args meth c cc nL (c0 :: lw_good) RX2 D am_cl0 tc A rs am_zs0 hs ad0) : am_op p l e R s m args below meth c D am_cl0 tc A nL n0 ad0 cc (1, 82) (am_fput 2 16 0) := am_fput_ok (j := 16) (q := 0) (N := 20) (T := TX2) C tyX2 tyX2_ok nmX2 rfl (fun w hw => am_tl (hinX2 w hw)) (by decide) (am_tl w_3_35) (Or.inl rfl) (fun _ => rfl) (fun h => absurd h (by decide))
theorem op_X2_0_44 (C : am_Cx p l R s m args meth c cc nL (c0 :: lw_good) RX2 D am_cl0 tc A rs am_zs0 hs ad0) : am_op p l e R s m args below meth c D am_cl0 tc A nL n0 ad0 cc (0, 44) (am_fget 2 14) := am_fget_ok (j := 14) (N := 20) (T := TX2) C rfl (fun w hw => am_tl (hinX2 w hw)) (by decide) (am_tl w_3_33)
set_option maxRecDepth 10000 in
theorem op_X2_3_85 (C : am_Cx p l R s m args meth c cc nL (c0 :: lw_good) RX2 D am_cl0 tc A am_rs0 am_zs0 hs ad0) (hl : l.stackTraces = false) (hR : rm_X2_canGo.frames + 1 ≤ R.frames ∧ 8 + (2 + 11) + rm_X2_canGo.locals ≤ R.locals) : am_op p l e R s m args below meth c D am_cl0 tc A nL n0 ad0 cc (3, 85) (am_fci (some 2) 2 F_X2_canGo rm_X2_canGo.cells rm_X2_canGo.slots) := am_fci_ok C (am_rn_V C rfl (M_X2_canGo hl) rfl (am_gd wc_X2_canGo) (am_tl w_3_156) (am_tl w_3_158) (am_tl (sl_X2_canGo)) (am_tl w_1_5) (by decide +kernel) hR)
set_option maxRecDepth 10000 in
theorem op_X2_3_89 (C : am_Cx p l R s m args meth c cc nL (c0 :: lw_good) RX2 D am_cl0 tc A am_rs0 am_zs0 hs ad0) (hl : l.stackTraces = false) (hR : rm_X2_sendOut.frames + 1 ≤ R.frames ∧ 8 + (3 + 11) + rm_X2_sendOut.locals ≤ R.locals) : am_op p l e R s m args below meth c D am_cl0 tc A nL n0 ad0 cc (3, 89) (am_fcv (some 2) 2 F_X2_sendOut rm_X2_sendOut.cells rm_X2_sendOut.slots) := am_fcv_ok C (am_rn_V C rfl (M_X2_sendOut hl) rfl (am_gd wc_X2_sendOut) (am_tl w_3_164) (am_tl w_3_166) (am_tl (sl_X2_sendOut)) (am_tl w_1_5) (by decide +kernel) hR)
def X_X2_look : am_X := [((0, 82), (am_fget 2 16)), ((0, 50), (am_fget 2 1)), ((1, 82), (am_fput 2 16 0)), ((0, 41), (am_fget 2 13)), ((0, 44), (am_fget 2 14)), ((3, 85), (am_fci (some 2) 2 F_X2_canGo rm_X2_canGo.cells rm_X2_canGo.slots)), ((3, 89), (am_fcv (some 2) 2 F_X2_sendOut rm_X2_sendOut.cells rm_X2_sendOut.slots))]
def F_X2_look : List am_V → am_H → Option am_O := am_fn T_X2_look X_X2_look 2 (some .boolean) am_rs0 [] [] 400 (rm_X2_look.cells, rm_X2_look.slots)
theorem wc_X2_look : Cond.code y_X2_look prog_4_method_14_code 2 (some .boolean) ∈ lw_good := w_3_155
theorem sl_X2_look : Cond.selects RX2 y_X2_look y_X2_look ∈ lw_good := am_inS (q := (y_X2_look, 20)) (List.mem_append_right _ (List.mem_append_right _ (List.mem_of_getElem? (i := 0) rfl)))
set_option maxRecDepth 100000 in
theorem M_X2_look {l : Launch} (hl : l.stackTraces = false) : am_M am_cl0 am_rs0 am_zs0 l y_X2_look (Cond.code y_X2_look prog_4_method_14_code 2 (some .boolean) :: lw_good) rm_X2_look (F_X2_look) := am_meth hl (by decide +kernel) (by decide +kernel) (am_okx fun p e s m args below meth c D tc A n0 ad0 C hm => List.forall_mem_cons.mpr ⟨op_X2_0_82 C, List.forall_mem_cons.mpr ⟨op_X2_0_50 C, List.forall_mem_cons.mpr ⟨op_X2_1_82 C, List.forall_mem_cons.mpr ⟨op_X2_0_41 C, List.forall_mem_cons.mpr ⟨op_X2_0_44 C, List.forall_mem_cons.mpr ⟨op_X2_3_85 C hl ⟨by decide, by decide⟩, List.forall_mem_cons.mpr ⟨op_X2_3_89 C hl ⟨by decide, by decide⟩, fun q hq => nomatch hq⟩⟩⟩⟩⟩⟩⟩)
set_option maxRecDepth 10000 in
theorem op_X2_3_92 (C : am_Cx p l R s m args meth c cc nL (c0 :: lw_good) RX2 D am_cl0 tc A am_rs0 am_zs0 hs ad0) (hl : l.stackTraces = false) (hR : rm_X2_look.frames + 1 ≤ R.frames ∧ 8 + (2 + 11) + rm_X2_look.locals ≤ R.locals) : am_op p l e R s m args below meth c D am_cl0 tc A nL n0 ad0 cc (3, 92) (am_fci (some 2) 1 F_X2_look rm_X2_look.cells rm_X2_look.slots) := am_fci_ok C (am_rn_V C rfl (M_X2_look hl) rfl (am_gd wc_X2_look) (am_tl w_3_152) (am_tl w_3_154) (am_tl (sl_X2_look)) (am_tl w_1_5) (by decide +kernel) hR)
def X_X2_getFrame : am_X := [((0, 50), (am_fget 2 1)), ((0, 41), (am_fget 2 13)), ((0, 82), (am_fget 2 16)), ((3, 92), (am_fci (some 2) 1 F_X2_look rm_X2_look.cells rm_X2_look.slots))]
def F_X2_getFrame : List am_V → am_H → Option am_O := am_fn T_X2_getFrame X_X2_getFrame 3 (some .int) am_rs0 [] [(2, [0, 1]), (29, [0, 1])] 400 (rm_X2_getFrame.cells, rm_X2_getFrame.slots)
theorem wc_X2_getFrame : Cond.code y_X2_getFrame prog_4_method_15_code 3 (some .int) ∈ lw_good := w_3_151
theorem sl_X2_getFrame : Cond.selects RX2 y_X2_getFrame y_X2_getFrame ∈ lw_good := am_inS (q := (y_X2_getFrame, 20)) (List.mem_append_right _ (List.mem_append_left _ (List.mem_of_getElem? (i := 15) rfl)))
set_option maxRecDepth 100000 in
theorem M_X2_getFrame {l : Launch} (hl : l.stackTraces = false) : am_M am_cl0 am_rs0 am_zs0 l y_X2_getFrame (Cond.code y_X2_getFrame prog_4_method_15_code 3 (some .int) :: lw_good) rm_X2_getFrame (F_X2_getFrame) := am_meth hl (by decide +kernel) (by decide +kernel) (am_okx fun p e s m args below meth c D tc A n0 ad0 C hm => List.forall_mem_cons.mpr ⟨op_X2_0_50 C, List.forall_mem_cons.mpr ⟨op_X2_0_41 C, List.forall_mem_cons.mpr ⟨op_X2_0_82 C, List.forall_mem_cons.mpr ⟨op_X2_3_92 C hl ⟨by decide, by decide⟩, fun q hq => nomatch hq⟩⟩⟩⟩)
def X_X2_putIn : am_X := [((0, 38), (am_fget 2 12)), ((0, 41), (am_fget 2 13)), ((0, 44), (am_fget 2 14))]
def F_X2_putIn : List am_V → am_H → Option am_O := am_fn T_X2_putIn X_X2_putIn 3 none am_rs0 [] [] 400 (rm_X2_putIn.cells, rm_X2_putIn.slots)
theorem wc_X2_putIn : Cond.code y_X2_putIn prog_4_method_16_code 3 none ∈ lw_good := w_3_171
theorem sl_X2_putIn : Cond.selects RX2 y_X2_putIn y_X2_putIn ∈ lw_good := am_inS (q := (y_X2_putIn, 20)) (List.mem_append_right _ (List.mem_append_right _ (List.mem_of_getElem? (i := 4) rfl)))
set_option maxRecDepth 100000 in
theorem M_X2_putIn {l : Launch} (hl : l.stackTraces = false) : am_M am_cl0 am_rs0 am_zs0 l y_X2_putIn (Cond.code y_X2_putIn prog_4_method_16_code 3 none :: lw_good) rm_X2_putIn (F_X2_putIn) := am_meth hl (by decide +kernel) (by decide +kernel) (am_okx fun p e s m args below meth c D tc A n0 ad0 C hm => List.forall_mem_cons.mpr ⟨op_X2_0_38 C, List.forall_mem_cons.mpr ⟨op_X2_0_41 C, List.forall_mem_cons.mpr ⟨op_X2_0_44 C, fun q hq => nomatch hq⟩⟩⟩)
set_option maxRecDepth 10000 in
theorem op_X2_3_96 (C : am_Cx p l R s m args meth c cc nL (c0 :: lw_good) RX2 D am_cl0 tc A am_rs0 am_zs0 hs ad0) (hl : l.stackTraces = false) (hR : rm_X2_getFrame.frames + 1 ≤ R.frames ∧ 8 + (3 + 11) + rm_X2_getFrame.locals ≤ R.locals) : am_op p l e R s m args below meth c D am_cl0 tc A nL n0 ad0 cc (3, 96) (am_fci (some 2) 1 F_X2_getFrame rm_X2_getFrame.cells rm_X2_getFrame.slots) := am_fci_ok C (am_rn_V C rfl (M_X2_getFrame hl) rfl (am_gd wc_X2_getFrame) (am_tl w_3_148) (am_tl w_3_150) (am_tl (sl_X2_getFrame)) (am_tl w_1_5) (by decide +kernel) hR)
set_option maxRecDepth 10000 in
theorem op_X2_3_99 (C : am_Cx p l R s m args meth c cc nL (c0 :: lw_good) RX2 D am_cl0 tc A am_rs0 am_zs0 hs ad0) (hl : l.stackTraces = false) (hR : rm_X2_putIn.frames + 1 ≤ R.frames ∧ 8 + (3 + 11) + rm_X2_putIn.locals ≤ R.locals) : am_op p l e R s m args below meth c D am_cl0 tc A nL n0 ad0 cc (3, 99) (am_fcv (some 2) 3 F_X2_putIn rm_X2_putIn.cells rm_X2_putIn.slots) := am_fcv_ok C (am_rn_V C rfl (M_X2_putIn hl) rfl (am_gd wc_X2_putIn) (am_tl w_3_168) (am_tl w_3_170) (am_tl (sl_X2_putIn)) (am_tl w_1_5) (by decide +kernel) hR)
theorem op_X2_0_102 (C : am_Cx p l R s m args meth c cc nL (c0 :: lw_good) RX2 D am_cl0 tc A rs am_zs0 hs ad0) : am_op p l e R s m args below meth c D am_cl0 tc A nL n0 ad0 cc (0, 102) (am_fget 2 17) := am_fget_ok (j := 17) (N := 20) (T := TX2) C rfl (fun w hw => am_tl (hinX2 w hw)) (by decide) (am_tl w_3_36)
theorem op_X2_1_102 (C : am_Cx p l R s m args meth c cc nL (c0 :: lw_good) RX2 D am_cl0 tc A rs am_zs0 hs ad0) : am_op p l e R s m args below meth c D am_cl0 tc A nL n0 ad0 cc (1, 102) (am_fput 2 17 0) := am_fput_ok (j := 17) (q := 0) (N := 20) (T := TX2) C tyX2 tyX2_ok nmX2 rfl (fun w hw => am_tl (hinX2 w hw)) (by decide) (am_tl w_3_36) (Or.inl rfl) (fun _ => rfl) (fun h => absurd h (by decide))
def X_X2_touch : am_X := [((0, 38), (am_fget 2 12)), ((3, 96), (am_fci (some 2) 1 F_X2_getFrame rm_X2_getFrame.cells rm_X2_getFrame.slots)), ((0, 47), (am_fget 2 15)), ((3, 99), (am_fcv (some 2) 3 F_X2_putIn rm_X2_putIn.cells rm_X2_putIn.slots)), ((0, 102), (am_fget 2 17)), ((1, 102), (am_fput 2 17 0)), ((0, 44), (am_fget 2 14))]
def F_X2_touch : List am_V → am_H → Option am_O := am_fn T_X2_touch X_X2_touch 3 (some .boolean) am_rs0 [] [] 400 (rm_X2_touch.cells, rm_X2_touch.slots)
theorem wc_X2_touch : Cond.code y_X2_touch prog_4_method_17_code 3 (some .boolean) ∈ lw_good := w_3_147
theorem sl_X2_touch : Cond.selects RX2 y_X2_touch y_X2_touch ∈ lw_good := am_inS (q := (y_X2_touch, 20)) (List.mem_append_right _ (List.mem_append_left _ (List.mem_of_getElem? (i := 14) rfl)))
set_option maxRecDepth 100000 in
theorem M_X2_touch {l : Launch} (hl : l.stackTraces = false) : am_M am_cl0 am_rs0 am_zs0 l y_X2_touch (Cond.code y_X2_touch prog_4_method_17_code 3 (some .boolean) :: lw_good) rm_X2_touch (F_X2_touch) := am_meth hl (by decide +kernel) (by decide +kernel) (am_okx fun p e s m args below meth c D tc A n0 ad0 C hm => List.forall_mem_cons.mpr ⟨op_X2_0_38 C, List.forall_mem_cons.mpr ⟨op_X2_3_96 C hl ⟨by decide, by decide⟩, List.forall_mem_cons.mpr ⟨op_X2_0_47 C, List.forall_mem_cons.mpr ⟨op_X2_3_99 C hl ⟨by decide, by decide⟩, List.forall_mem_cons.mpr ⟨op_X2_0_102 C, List.forall_mem_cons.mpr ⟨op_X2_1_102 C, List.forall_mem_cons.mpr ⟨op_X2_0_44 C, fun q hq => nomatch hq⟩⟩⟩⟩⟩⟩⟩)
def X_X2_wordOf : am_X := [((0, 31), (am_fget 2 10))]
def F_X2_wordOf : List am_V → am_H → Option am_O := am_fn T_X2_wordOf X_X2_wordOf 3 (some .int) am_rs0 [] [] 400 (rm_X2_wordOf.cells, rm_X2_wordOf.slots)
theorem wc_X2_wordOf : Cond.code y_X2_wordOf prog_4_method_26_code 3 (some .int) ∈ lw_good := w_3_175
theorem sl_X2_wordOf : Cond.selects RX2 y_X2_wordOf y_X2_wordOf ∈ lw_good := am_inS (q := (y_X2_wordOf, 20)) (List.mem_append_right _ (List.mem_append_right _ (List.mem_of_getElem? (i := 5) rfl)))
set_option maxRecDepth 100000 in
theorem M_X2_wordOf {l : Launch} (hl : l.stackTraces = false) : am_M am_cl0 am_rs0 am_zs0 l y_X2_wordOf (Cond.code y_X2_wordOf prog_4_method_26_code 3 (some .int) :: lw_good) rm_X2_wordOf (F_X2_wordOf) := am_meth hl (by decide +kernel) (by decide +kernel) (am_okx fun p e s m args below meth c D tc A n0 ad0 C hm => List.forall_mem_cons.mpr ⟨op_X2_0_31 C, fun q hq => nomatch hq⟩)
set_option maxRecDepth 10000 in
theorem op_X2_3_121 (C : am_Cx p l R s m args meth c cc nL (c0 :: lw_good) RX2 D am_cl0 tc A am_rs0 am_zs0 hs ad0) (hl : l.stackTraces = false) (hR : rm_X2_growStack.frames + 1 ≤ R.frames ∧ 8 + (4 + 11) + rm_X2_growStack.locals ≤ R.locals) : am_op p l e R s m args below meth c D am_cl0 tc A nL n0 ad0 cc (3, 121) (am_fcv (some 2) 3 F_X2_growStack rm_X2_growStack.cells rm_X2_growStack.slots) := am_fcv_ok C (am_rn_V C rfl (M_X2_growStack hl) rfl (am_gd wc_X2_growStack) (am_tl w_3_136) (am_tl w_3_138) (am_tl (sl_X2_growStack)) (am_tl w_1_5) (by decide +kernel) hR)
set_option maxRecDepth 10000 in
theorem op_X2_3_124 (C : am_Cx p l R s m args meth c cc nL (c0 :: lw_good) RX2 D am_cl0 tc A am_rs0 am_zs0 hs ad0) (hl : l.stackTraces = false) (hR : rm_X2_pageOf.frames + 1 ≤ R.frames ∧ 8 + (3 + 11) + rm_X2_pageOf.locals ≤ R.locals) : am_op p l e R s m args below meth c D am_cl0 tc A nL n0 ad0 cc (3, 124) (am_fci (some 2) 3 F_X2_pageOf rm_X2_pageOf.cells rm_X2_pageOf.slots) := am_fci_ok C (am_rn_V C rfl (M_X2_pageOf hl) rfl (am_gd wc_X2_pageOf) (am_tl w_3_140) (am_tl w_3_142) (am_tl (sl_X2_pageOf)) (am_tl w_1_5) (by decide +kernel) hR)
set_option maxRecDepth 10000 in
theorem op_X2_3_128 (C : am_Cx p l R s m args meth c cc nL (c0 :: lw_good) RX2 D am_cl0 tc A am_rs0 am_zs0 hs ad0) (hl : l.stackTraces = false) (hR : rm_X2_touch.frames + 1 ≤ R.frames ∧ 8 + (3 + 11) + rm_X2_touch.locals ≤ R.locals) : am_op p l e R s m args below meth c D am_cl0 tc A nL n0 ad0 cc (3, 128) (am_fci (some 2) 2 F_X2_touch rm_X2_touch.cells rm_X2_touch.slots) := am_fci_ok C (am_rn_V C rfl (M_X2_touch hl) rfl (am_gd wc_X2_touch) (am_tl w_3_144) (am_tl w_3_146) (am_tl (sl_X2_touch)) (am_tl w_1_5) (by decide +kernel) hR)
set_option maxRecDepth 10000 in
theorem op_X2_3_131 (C : am_Cx p l R s m args meth c cc nL (c0 :: lw_good) RX2 D am_cl0 tc A am_rs0 am_zs0 hs ad0) (hl : l.stackTraces = false) (hR : rm_X2_wordOf.frames + 1 ≤ R.frames ∧ 8 + (3 + 11) + rm_X2_wordOf.locals ≤ R.locals) : am_op p l e R s m args below meth c D am_cl0 tc A nL n0 ad0 cc (3, 131) (am_fci (some 2) 3 F_X2_wordOf rm_X2_wordOf.cells rm_X2_wordOf.slots) := am_fci_ok C (am_rn_V C rfl (M_X2_wordOf hl) rfl (am_gd wc_X2_wordOf) (am_tl w_3_172) (am_tl w_3_174) (am_tl (sl_X2_wordOf)) (am_tl w_1_5) (by decide +kernel) hR)
def X_X2_read : am_X := [((1, 61), (am_fput 2 0 0)), ((3, 105), (am_fci (some 2) 3 F_X2_out rm_X2_out.cells rm_X2_out.slots)), ((3, 109), (am_fci (some 2) 2 F_X2_fail rm_X2_fail.cells rm_X2_fail.slots)), ((3, 112), (am_fci (some 2) 2 F_X2_notRunning rm_X2_notRunning.cells rm_X2_notRunning.slots)), ((3, 121), (am_fcv (some 2) 3 F_X2_growStack rm_X2_growStack.cells rm_X2_growStack.slots)), ((3, 124), (am_fci (some 2) 3 F_X2_pageOf rm_X2_pageOf.cells rm_X2_pageOf.slots)), ((3, 128), (am_fci (some 2) 2 F_X2_touch rm_X2_touch.cells rm_X2_touch.slots)), ((3, 131), (am_fci (some 2) 3 F_X2_wordOf rm_X2_wordOf.cells rm_X2_wordOf.slots))]
def F_X2_read : List am_V → am_H → Option am_O := am_fn T_X2_read X_X2_read 4 (some .int) am_rs0 [] [] 400 (rm_X2_read.cells, rm_X2_read.slots)
theorem wc_X2_read : Cond.code y_X2_read prog_4_method_27_code 4 (some .int) ∈ lw_good := w_3_135
set_option maxRecDepth 100000 in
theorem M_X2_read {l : Launch} (hl : l.stackTraces = false) : am_M am_cl0 am_rs0 am_zs0 l y_X2_read (Cond.code y_X2_read prog_4_method_27_code 4 (some .int) :: lw_good) rm_X2_read (F_X2_read) := am_meth hl (by decide +kernel) (by decide +kernel) (am_okx fun p e s m args below meth c D tc A n0 ad0 C hm => List.forall_mem_cons.mpr ⟨op_X2_1_61 C, List.forall_mem_cons.mpr ⟨op_X2_3_105 C hl ⟨by decide, by decide⟩, List.forall_mem_cons.mpr ⟨op_X2_3_109 C hl ⟨by decide, by decide⟩, List.forall_mem_cons.mpr ⟨op_X2_3_112 C hl ⟨by decide, by decide⟩, List.forall_mem_cons.mpr ⟨op_X2_3_121 C hl ⟨by decide, by decide⟩, List.forall_mem_cons.mpr ⟨op_X2_3_124 C hl ⟨by decide, by decide⟩, List.forall_mem_cons.mpr ⟨op_X2_3_128 C hl ⟨by decide, by decide⟩, List.forall_mem_cons.mpr ⟨op_X2_3_131 C hl ⟨by decide, by decide⟩, fun q hq => nomatch hq⟩⟩⟩⟩⟩⟩⟩⟩)
theorem op_X2_0_134 (C : am_Cx p l R s m args meth c cc nL (c0 :: lw_good) RX2 D am_cl0 tc A rs am_zs0 hs ad0) : am_op p l e R s m args below meth c D am_cl0 tc A nL n0 ad0 cc (0, 134) (am_fget 2 18) := am_fget_ok (j := 18) (N := 20) (T := TX2) C rfl (fun w hw => am_tl (hinX2 w hw)) (by decide) (am_tl w_3_37)
theorem op_X2_1_134 (C : am_Cx p l R s m args meth c cc nL (c0 :: lw_good) RX2 D am_cl0 tc A rs am_zs0 hs ad0) : am_op p l e R s m args below meth c D am_cl0 tc A nL n0 ad0 cc (1, 134) (am_fput 2 18 0) := am_fput_ok (j := 18) (q := 0) (N := 20) (T := TX2) C tyX2 tyX2_ok nmX2 rfl (fun w hw => am_tl (hinX2 w hw)) (by decide) (am_tl w_3_37) (Or.inl rfl) (fun _ => rfl) (fun h => absurd h (by decide))
def X_X2_write : am_X := [((1, 61), (am_fput 2 0 0)), ((3, 105), (am_fci (some 2) 3 F_X2_out rm_X2_out.cells rm_X2_out.slots)), ((3, 109), (am_fci (some 2) 2 F_X2_fail rm_X2_fail.cells rm_X2_fail.slots)), ((3, 112), (am_fci (some 2) 2 F_X2_notRunning rm_X2_notRunning.cells rm_X2_notRunning.slots)), ((3, 121), (am_fcv (some 2) 3 F_X2_growStack rm_X2_growStack.cells rm_X2_growStack.slots)), ((3, 124), (am_fci (some 2) 3 F_X2_pageOf rm_X2_pageOf.cells rm_X2_pageOf.slots)), ((3, 128), (am_fci (some 2) 2 F_X2_touch rm_X2_touch.cells rm_X2_touch.slots)), ((3, 64), (am_fci (some 2) 2 F_X2_owners rm_X2_owners.cells rm_X2_owners.slots)), ((3, 96), (am_fci (some 2) 1 F_X2_getFrame rm_X2_getFrame.cells rm_X2_getFrame.slots)), ((3, 72), (am_fci (some 2) 1 F_X2_newPage rm_X2_newPage.cells rm_X2_newPage.slots)), ((0, 31), (am_fget 2 10)), ((3, 99), (am_fcv (some 2) 3 F_X2_putIn rm_X2_putIn.cells rm_X2_putIn.slots)), ((0, 134), (am_fget 2 18)), ((1, 134), (am_fput 2 18 0)), ((0, 28), (am_fget 2 9)), ((3, 131), (am_fci (some 2) 3 F_X2_wordOf rm_X2_wordOf.cells rm_X2_wordOf.slots))]
def F_X2_write : List am_V → am_H → Option am_O := am_fn T_X2_write X_X2_write 8 (some .int) am_rs0 [] [(134, [0, 1, 2, 3, 4, 5, 6, 7])] 400 (rm_X2_write.cells, rm_X2_write.slots)
theorem wc_X2_write : Cond.code y_X2_write prog_4_method_28_code 8 (some .int) ∈ lw_good := w_3_179
set_option maxRecDepth 100000 in
theorem M_X2_write {l : Launch} (hl : l.stackTraces = false) : am_M am_cl0 am_rs0 am_zs0 l y_X2_write (Cond.code y_X2_write prog_4_method_28_code 8 (some .int) :: lw_good) rm_X2_write (F_X2_write) := am_meth hl (by decide +kernel) (by decide +kernel) (am_okx fun p e s m args below meth c D tc A n0 ad0 C hm => List.forall_mem_cons.mpr ⟨op_X2_1_61 C, List.forall_mem_cons.mpr ⟨op_X2_3_105 C hl ⟨by decide, by decide⟩, List.forall_mem_cons.mpr ⟨op_X2_3_109 C hl ⟨by decide, by decide⟩, List.forall_mem_cons.mpr ⟨op_X2_3_112 C hl ⟨by decide, by decide⟩, List.forall_mem_cons.mpr ⟨op_X2_3_121 C hl ⟨by decide, by decide⟩, List.forall_mem_cons.mpr ⟨op_X2_3_124 C hl ⟨by decide, by decide⟩, List.forall_mem_cons.mpr ⟨op_X2_3_128 C hl ⟨by decide, by decide⟩, List.forall_mem_cons.mpr ⟨op_X2_3_64 C hl ⟨by decide, by decide⟩, List.forall_mem_cons.mpr ⟨op_X2_3_96 C hl ⟨by decide, by decide⟩, List.forall_mem_cons.mpr ⟨op_X2_3_72 C hl ⟨by decide, by decide⟩, List.forall_mem_cons.mpr ⟨op_X2_0_31 C, List.forall_mem_cons.mpr ⟨op_X2_3_99 C hl ⟨by decide, by decide⟩, List.forall_mem_cons.mpr ⟨op_X2_0_134 C, List.forall_mem_cons.mpr ⟨op_X2_1_134 C, List.forall_mem_cons.mpr ⟨op_X2_0_28 C, List.forall_mem_cons.mpr ⟨op_X2_3_131 C hl ⟨by decide, by decide⟩, fun q hq => nomatch hq⟩⟩⟩⟩⟩⟩⟩⟩⟩⟩⟩⟩⟩⟩⟩⟩)
def X_X2_sweep : am_X := [((1, 61), (am_fput 2 0 0)), ((3, 109), (am_fci (some 2) 2 F_X2_fail rm_X2_fail.cells rm_X2_fail.slots)), ((3, 92), (am_fci (some 2) 1 F_X2_look rm_X2_look.cells rm_X2_look.slots))]
def F_X2_sweep : List am_V → am_H → Option am_O := am_fn T_X2_sweep X_X2_sweep 4 (some .int) am_rs0 [] [(26, [0, 1, 2, 3])] 400 (rm_X2_sweep.cells, rm_X2_sweep.slots)
theorem wc_X2_sweep : Cond.code y_X2_sweep prog_4_method_29_code 4 (some .int) ∈ lw_good := w_3_183
set_option maxRecDepth 100000 in
theorem M_X2_sweep {l : Launch} (hl : l.stackTraces = false) : am_M am_cl0 am_rs0 am_zs0 l y_X2_sweep (Cond.code y_X2_sweep prog_4_method_29_code 4 (some .int) :: lw_good) rm_X2_sweep (F_X2_sweep) := am_meth hl (by decide +kernel) (by decide +kernel) (am_okx fun p e s m args below meth c D tc A n0 ad0 C hm => List.forall_mem_cons.mpr ⟨op_X2_1_61 C, List.forall_mem_cons.mpr ⟨op_X2_3_109 C hl ⟨by decide, by decide⟩, List.forall_mem_cons.mpr ⟨op_X2_3_92 C hl ⟨by decide, by decide⟩, fun q hq => nomatch hq⟩⟩⟩)
def X_X2_swapOut : am_X := [((1, 61), (am_fput 2 0 0)), ((3, 105), (am_fci (some 2) 3 F_X2_out rm_X2_out.cells rm_X2_out.slots)), ((3, 109), (am_fci (some 2) 2 F_X2_fail rm_X2_fail.cells rm_X2_fail.slots)), ((3, 112), (am_fci (some 2) 2 F_X2_notRunning rm_X2_notRunning.cells rm_X2_notRunning.slots)), ((0, 28), (am_fget 2 9)), ((0, 38), (am_fget 2 12)), ((3, 64), (am_fci (some 2) 2 F_X2_owners rm_X2_owners.cells rm_X2_owners.slots)), ((3, 76), (am_fci (some 2) 1 F_X2_freeSlot rm_X2_freeSlot.cells rm_X2_freeSlot.slots)), ((3, 89), (am_fcv (some 2) 2 F_X2_sendOut rm_X2_sendOut.cells rm_X2_sendOut.slots))]
def F_X2_swapOut : List am_V → am_H → Option am_O := am_fn T_X2_swapOut X_X2_swapOut 5 (some .int) am_rs0 [] [(39, [0, 1, 2, 3])] 400 (rm_X2_swapOut.cells, rm_X2_swapOut.slots)
theorem wc_X2_swapOut : Cond.code y_X2_swapOut prog_4_method_30_code 5 (some .int) ∈ lw_good := w_3_187
set_option maxRecDepth 100000 in
theorem M_X2_swapOut {l : Launch} (hl : l.stackTraces = false) : am_M am_cl0 am_rs0 am_zs0 l y_X2_swapOut (Cond.code y_X2_swapOut prog_4_method_30_code 5 (some .int) :: lw_good) rm_X2_swapOut (F_X2_swapOut) := am_meth hl (by decide +kernel) (by decide +kernel) (am_okx fun p e s m args below meth c D tc A n0 ad0 C hm => List.forall_mem_cons.mpr ⟨op_X2_1_61 C, List.forall_mem_cons.mpr ⟨op_X2_3_105 C hl ⟨by decide, by decide⟩, List.forall_mem_cons.mpr ⟨op_X2_3_109 C hl ⟨by decide, by decide⟩, List.forall_mem_cons.mpr ⟨op_X2_3_112 C hl ⟨by decide, by decide⟩, List.forall_mem_cons.mpr ⟨op_X2_0_28 C, List.forall_mem_cons.mpr ⟨op_X2_0_38 C, List.forall_mem_cons.mpr ⟨op_X2_3_64 C hl ⟨by decide, by decide⟩, List.forall_mem_cons.mpr ⟨op_X2_3_76 C hl ⟨by decide, by decide⟩, List.forall_mem_cons.mpr ⟨op_X2_3_89 C hl ⟨by decide, by decide⟩, fun q hq => nomatch hq⟩⟩⟩⟩⟩⟩⟩⟩⟩)
def X_X2_seek : am_X := [((3, 105), (am_fci (some 2) 3 F_X2_out rm_X2_out.cells rm_X2_out.slots)), ((1, 61), (am_fput 2 0 0)), ((3, 112), (am_fci (some 2) 2 F_X2_notRunning rm_X2_notRunning.cells rm_X2_notRunning.slots)), ((3, 124), (am_fci (some 2) 3 F_X2_pageOf rm_X2_pageOf.cells rm_X2_pageOf.slots)), ((0, 61), (am_fget 2 0))]
def F_X2_seek : List am_V → am_H → Option am_O := am_fn T_X2_seek X_X2_seek 3 (some .int) am_rs0 [] [] 400 (rm_X2_seek.cells, rm_X2_seek.slots)
theorem wc_X2_seek : Cond.code y_X2_seek prog_4_method_31_code 3 (some .int) ∈ lw_good := w_3_195
theorem sl_X2_seek : Cond.selects RX2 y_X2_seek y_X2_seek ∈ lw_good := am_inS (q := (y_X2_seek, 20)) (List.mem_append_right _ (List.mem_append_right _ (List.mem_of_getElem? (i := 6) rfl)))
set_option maxRecDepth 100000 in
theorem M_X2_seek {l : Launch} (hl : l.stackTraces = false) : am_M am_cl0 am_rs0 am_zs0 l y_X2_seek (Cond.code y_X2_seek prog_4_method_31_code 3 (some .int) :: lw_good) rm_X2_seek (F_X2_seek) := am_meth hl (by decide +kernel) (by decide +kernel) (am_okx fun p e s m args below meth c D tc A n0 ad0 C hm => List.forall_mem_cons.mpr ⟨op_X2_3_105 C hl ⟨by decide, by decide⟩, List.forall_mem_cons.mpr ⟨op_X2_1_61 C, List.forall_mem_cons.mpr ⟨op_X2_3_112 C hl ⟨by decide, by decide⟩, List.forall_mem_cons.mpr ⟨op_X2_3_124 C hl ⟨by decide, by decide⟩, List.forall_mem_cons.mpr ⟨op_X2_0_61 C, fun q hq => nomatch hq⟩⟩⟩⟩⟩)
set_option maxRecDepth 10000 in
theorem op_X2_3_137 (C : am_Cx p l R s m args meth c cc nL (c0 :: lw_good) RX2 D am_cl0 tc A am_rs0 am_zs0 hs ad0) (hl : l.stackTraces = false) (hR : rm_X2_seek.frames + 1 ≤ R.frames ∧ 8 + (3 + 11) + rm_X2_seek.locals ≤ R.locals) : am_op p l e R s m args below meth c D am_cl0 tc A nL n0 ad0 cc (3, 137) (am_fci (some 2) 3 F_X2_seek rm_X2_seek.cells rm_X2_seek.slots) := am_fci_ok C (am_rn_V C rfl (M_X2_seek hl) rfl (am_gd wc_X2_seek) (am_tl w_3_192) (am_tl w_3_194) (am_tl (sl_X2_seek)) (am_tl w_1_5) (by decide +kernel) hR)
def X_X2_where : am_X := [((1, 61), (am_fput 2 0 0)), ((3, 137), (am_fci (some 2) 3 F_X2_seek rm_X2_seek.cells rm_X2_seek.slots)), ((0, 38), (am_fget 2 12))]
def F_X2_where : List am_V → am_H → Option am_O := am_fn T_X2_where X_X2_where 4 (some .int) am_rs0 [] [] 400 (rm_X2_where.cells, rm_X2_where.slots)
theorem wc_X2_where : Cond.code y_X2_where prog_4_method_32_code 4 (some .int) ∈ lw_good := w_3_191
set_option maxRecDepth 100000 in
theorem M_X2_where {l : Launch} (hl : l.stackTraces = false) : am_M am_cl0 am_rs0 am_zs0 l y_X2_where (Cond.code y_X2_where prog_4_method_32_code 4 (some .int) :: lw_good) rm_X2_where (F_X2_where) := am_meth hl (by decide +kernel) (by decide +kernel) (am_okx fun p e s m args below meth c D tc A n0 ad0 C hm => List.forall_mem_cons.mpr ⟨op_X2_1_61 C, List.forall_mem_cons.mpr ⟨op_X2_3_137 C hl ⟨by decide, by decide⟩, List.forall_mem_cons.mpr ⟨op_X2_0_38 C, fun q hq => nomatch hq⟩⟩⟩)
def X_X2_sharers : am_X := [((1, 61), (am_fput 2 0 0)), ((3, 137), (am_fci (some 2) 3 F_X2_seek rm_X2_seek.cells rm_X2_seek.slots)), ((3, 64), (am_fci (some 2) 2 F_X2_owners rm_X2_owners.cells rm_X2_owners.slots))]
def F_X2_sharers : List am_V → am_H → Option am_O := am_fn T_X2_sharers X_X2_sharers 4 (some .int) am_rs0 [] [] 400 (rm_X2_sharers.cells, rm_X2_sharers.slots)
theorem wc_X2_sharers : Cond.code y_X2_sharers prog_4_method_33_code 4 (some .int) ∈ lw_good := w_3_199
set_option maxRecDepth 100000 in
theorem M_X2_sharers {l : Launch} (hl : l.stackTraces = false) : am_M am_cl0 am_rs0 am_zs0 l y_X2_sharers (Cond.code y_X2_sharers prog_4_method_33_code 4 (some .int) :: lw_good) rm_X2_sharers (F_X2_sharers) := am_meth hl (by decide +kernel) (by decide +kernel) (am_okx fun p e s m args below meth c D tc A n0 ad0 C hm => List.forall_mem_cons.mpr ⟨op_X2_1_61 C, List.forall_mem_cons.mpr ⟨op_X2_3_137 C hl ⟨by decide, by decide⟩, List.forall_mem_cons.mpr ⟨op_X2_3_64 C hl ⟨by decide, by decide⟩, fun q hq => nomatch hq⟩⟩⟩)
def X_X2_fact : am_X := [((1, 61), (am_fput 2 0 0)), ((3, 105), (am_fci (some 2) 3 F_X2_out rm_X2_out.cells rm_X2_out.slots)), ((3, 109), (am_fci (some 2) 2 F_X2_fail rm_X2_fail.cells rm_X2_fail.slots)), ((0, 7), (am_fget 2 3)), ((0, 16), (am_fget 2 5)), ((3, 112), (am_fci (some 2) 2 F_X2_notRunning rm_X2_notRunning.cells rm_X2_notRunning.slots)), ((0, 13), (am_fget 2 4)), ((0, 22), (am_fget 2 7)), ((0, 25), (am_fget 2 8))]
def F_X2_fact : List am_V → am_H → Option am_O := am_fn T_X2_fact X_X2_fact 3 (some .int) am_rs0 [] [] 400 (rm_X2_fact.cells, rm_X2_fact.slots)
theorem wc_X2_fact : Cond.code y_X2_fact prog_4_method_34_code 3 (some .int) ∈ lw_good := w_3_203
set_option maxRecDepth 100000 in
theorem M_X2_fact {l : Launch} (hl : l.stackTraces = false) : am_M am_cl0 am_rs0 am_zs0 l y_X2_fact (Cond.code y_X2_fact prog_4_method_34_code 3 (some .int) :: lw_good) rm_X2_fact (F_X2_fact) := am_meth hl (by decide +kernel) (by decide +kernel) (am_okx fun p e s m args below meth c D tc A n0 ad0 C hm => List.forall_mem_cons.mpr ⟨op_X2_1_61 C, List.forall_mem_cons.mpr ⟨op_X2_3_105 C hl ⟨by decide, by decide⟩, List.forall_mem_cons.mpr ⟨op_X2_3_109 C hl ⟨by decide, by decide⟩, List.forall_mem_cons.mpr ⟨op_X2_0_7 C, List.forall_mem_cons.mpr ⟨op_X2_0_16 C, List.forall_mem_cons.mpr ⟨op_X2_3_112 C hl ⟨by decide, by decide⟩, List.forall_mem_cons.mpr ⟨op_X2_0_13 C, List.forall_mem_cons.mpr ⟨op_X2_0_22 C, List.forall_mem_cons.mpr ⟨op_X2_0_25 C, fun q hq => nomatch hq⟩⟩⟩⟩⟩⟩⟩⟩⟩)
def X_X2_count : am_X := [((1, 61), (am_fput 2 0 0)), ((3, 105), (am_fci (some 2) 3 F_X2_out rm_X2_out.cells rm_X2_out.slots)), ((3, 109), (am_fci (some 2) 2 F_X2_fail rm_X2_fail.cells rm_X2_fail.slots)), ((0, 50), (am_fget 2 1)), ((0, 41), (am_fget 2 13)), ((0, 54), (am_fget 2 2)), ((0, 47), (am_fget 2 15)), ((0, 102), (am_fget 2 17)), ((0, 134), (am_fget 2 18)), ((0, 82), (am_fget 2 16)), ((0, 79), (am_fget 2 19)), ((0, 44), (am_fget 2 14))]
def F_X2_count : List am_V → am_H → Option am_O := am_fn T_X2_count X_X2_count 5 (some .int) am_rs0 [] [(28, [0, 1, 2, 3, 4]), (64, [0, 1, 2, 3, 4])] 400 (rm_X2_count.cells, rm_X2_count.slots)
theorem wc_X2_count : Cond.code y_X2_count prog_4_method_35_code 5 (some .int) ∈ lw_good := w_3_207
set_option maxRecDepth 100000 in
theorem M_X2_count {l : Launch} (hl : l.stackTraces = false) : am_M am_cl0 am_rs0 am_zs0 l y_X2_count (Cond.code y_X2_count prog_4_method_35_code 5 (some .int) :: lw_good) rm_X2_count (F_X2_count) := am_meth hl (by decide +kernel) (by decide +kernel) (am_okx fun p e s m args below meth c D tc A n0 ad0 C hm => List.forall_mem_cons.mpr ⟨op_X2_1_61 C, List.forall_mem_cons.mpr ⟨op_X2_3_105 C hl ⟨by decide, by decide⟩, List.forall_mem_cons.mpr ⟨op_X2_3_109 C hl ⟨by decide, by decide⟩, List.forall_mem_cons.mpr ⟨op_X2_0_50 C, List.forall_mem_cons.mpr ⟨op_X2_0_41 C, List.forall_mem_cons.mpr ⟨op_X2_0_54 C, List.forall_mem_cons.mpr ⟨op_X2_0_47 C, List.forall_mem_cons.mpr ⟨op_X2_0_102 C, List.forall_mem_cons.mpr ⟨op_X2_0_134 C, List.forall_mem_cons.mpr ⟨op_X2_0_82 C, List.forall_mem_cons.mpr ⟨op_X2_0_79 C, List.forall_mem_cons.mpr ⟨op_X2_0_44 C, fun q hq => nomatch hq⟩⟩⟩⟩⟩⟩⟩⟩⟩⟩⟩⟩)
end AMP
end
section
section AMP
variable {p : Program} {l : Launch} {e : Env} {R : Room} {s : State} {m : MethodId} {args : Array Value} {below : List Frame} {meth : Method} {c : Code} {D : va_G} {tc : Nat → ClassId} {A : Nat → Prop} {nL n0 : Nat} {ad0 : am_A} {cc : ByteArray} {c0 : Cond} {hs : am_Hs} {rs : Nat → Option (Nat × (Nat → Int32))}
def X_L_cell : am_X := []
def F_L_cell (rs : Nat → Option (Nat × (Nat → Int32))) : List am_V → am_H → Option am_O := am_fn T_L_cell X_L_cell 2 (some .int) rs [] [] 400 (rm_L_cell.cells, rm_L_cell.slots)
theorem wc_L_cell : Cond.code y_L_cell method_2_code 2 (some .int) ∈ lw_good := w_1_145
set_option maxRecDepth 100000 in
theorem M_L_cell {rs : Nat → Option (Nat × (Nat → Int32))} {l : Launch} (hl : l.stackTraces = false) : am_M am_cl0 rs am_zs0 l y_L_cell (Cond.code y_L_cell method_2_code 2 (some .int) :: lw_good) rm_L_cell (F_L_cell rs) := am_meth hl (by decide +kernel) (by decide +kernel) (am_okx fun p e s m args below meth c D tc A n0 ad0 C hm => fun q hq => nomatch hq)
set_option maxRecDepth 10000 in
theorem op_L_3_7 (C : am_Cx p l R s m args meth c cc nL (c0 :: lw_good) RL D am_cl0 tc A am_rs0 am_zs0 hs ad0) (hl : l.stackTraces = false) (hR : rm_X1_fork.frames + 1 ≤ R.frames ∧ 8 + (3 + 11) + rm_X1_fork.locals ≤ R.locals) : am_op p l e R s m args below meth c D am_cl0 tc A nL n0 ad0 cc (3, 7) (am_fci (some 1) 2 F_X1_fork rm_X1_fork.cells rm_X1_fork.slots) := am_fci_ok C (am_rn_V C rfl (M_X1_fork hl) rfl (am_gd wc_X1_fork) (am_tl w_1_152) (am_tl w_1_153) (am_tl w_1_154) (am_tl w_1_1) (by decide +kernel) hR)
def X_L_fork : am_X := [((3, 7), (am_fci (some 1) 2 F_X1_fork rm_X1_fork.cells rm_X1_fork.slots))]
def H_L_fork : am_Hs := [(0, 9, 12, 13, 0), (0, 9, 15, 15, 1), (0, 9, 18, 17, 2)]
def F_L_fork : List am_V → am_H → Option am_O := am_fn T_L_fork X_L_fork 4 (some .int) am_rs0 H_L_fork [] 400 (rm_L_fork.cells, rm_L_fork.slots)
theorem wc_L_fork : Cond.codeWith y_L_fork method_3_code 4 (some .int) (am_tb H_L_fork) ∈ lw_good := w_1_148
set_option maxRecDepth 100000 in
theorem M_L_fork {l : Launch} (hl : l.stackTraces = false) : am_M am_cl0 am_rs0 am_zs0 l y_L_fork (Cond.codeWith y_L_fork method_3_code 4 (some .int) (am_tb H_L_fork) :: lw_good) rm_L_fork (F_L_fork) := am_methH hl (by decide +kernel) (by decide +kernel) (am_okx fun p e s m args below meth c D tc A n0 ad0 C hm => List.forall_mem_cons.mpr ⟨op_L_3_7 C hl ⟨by decide, by decide⟩, fun q hq => nomatch hq⟩)
  (by
    intro q hq
    match q, hq with
    | _, List.Mem.head _ => exact ⟨by decide, by decide, w_1_149, List.mem_of_getElem? (i := 0) rfl⟩
    | _, List.Mem.tail _ (List.Mem.head _) => exact ⟨by decide, by decide, w_1_150, List.mem_of_getElem? (i := 1) rfl⟩
    | _, List.Mem.tail _ (List.Mem.tail _ (List.Mem.head _)) => exact ⟨by decide, by decide, w_1_151, List.mem_of_getElem? (i := 2) rfl⟩)
set_option maxRecDepth 10000 in
theorem op_L_3_19 (C : am_Cx p l R s m args meth c cc nL (c0 :: lw_good) RL D am_cl0 tc A am_rs0 am_zs0 hs ad0) (hl : l.stackTraces = false) (hR : rm_X1_exec.frames + 1 ≤ R.frames ∧ 8 + (3 + 11) + rm_X1_exec.locals ≤ R.locals) : am_op p l e R s m args below meth c D am_cl0 tc A nL n0 ad0 cc (3, 19) (am_fci (some 1) 3 F_X1_exec rm_X1_exec.cells rm_X1_exec.slots) := am_fci_ok C (am_rn_V C rfl (M_X1_exec hl) rfl (am_gd wc_X1_exec) (am_tl w_2_32) (am_tl w_2_33) (am_tl w_2_34) (am_tl w_1_1) (by decide +kernel) hR)
def X_L_exec : am_X := [((3, 19), (am_fci (some 1) 3 F_X1_exec rm_X1_exec.cells rm_X1_exec.slots))]
def H_L_exec : am_Hs := [(0, 10, 13, 13, 0), (0, 10, 17, 15, 1)]
def F_L_exec : List am_V → am_H → Option am_O := am_fn T_L_exec X_L_exec 5 (some .int) am_rs0 H_L_exec [] 400 (rm_L_exec.cells, rm_L_exec.slots)
theorem wc_L_exec : Cond.codeWith y_L_exec method_4_code 5 (some .int) (am_tb H_L_exec) ∈ lw_good := w_2_31
set_option maxRecDepth 100000 in
theorem M_L_exec {l : Launch} (hl : l.stackTraces = false) : am_M am_cl0 am_rs0 am_zs0 l y_L_exec (Cond.codeWith y_L_exec method_4_code 5 (some .int) (am_tb H_L_exec) :: lw_good) rm_L_exec (F_L_exec) := am_methH hl (by decide +kernel) (by decide +kernel) (am_okx fun p e s m args below meth c D tc A n0 ad0 C hm => List.forall_mem_cons.mpr ⟨op_L_3_19 C hl ⟨by decide, by decide⟩, fun q hq => nomatch hq⟩)
  (by
    intro q hq
    match q, hq with
    | _, List.Mem.head _ => exact ⟨by decide, by decide, w_1_149, List.mem_of_getElem? (i := 0) rfl⟩
    | _, List.Mem.tail _ (List.Mem.head _) => exact ⟨by decide, by decide, w_1_150, List.mem_of_getElem? (i := 1) rfl⟩)
set_option maxRecDepth 10000 in
theorem op_L_3_23 (C : am_Cx p l R s m args meth c cc nL (c0 :: lw_good) RL D am_cl0 tc A am_rs0 am_zs0 hs ad0) (hl : l.stackTraces = false) (hR : rm_X1_exit.frames + 1 ≤ R.frames ∧ 8 + (3 + 11) + rm_X1_exit.locals ≤ R.locals) : am_op p l e R s m args below meth c D am_cl0 tc A nL n0 ad0 cc (3, 23) (am_fci (some 1) 3 F_X1_exit rm_X1_exit.cells rm_X1_exit.slots) := am_fci_ok C (am_rn_V C rfl (M_X1_exit hl) rfl (am_gd wc_X1_exit) (am_tl w_2_39) (am_tl w_2_40) (am_tl w_2_41) (am_tl w_1_1) (by decide +kernel) hR)
def X_L_exit : am_X := [((3, 23), (am_fci (some 1) 3 F_X1_exit rm_X1_exit.cells rm_X1_exit.slots))]
def H_L_exit : am_Hs := [(0, 10, 13, 13, 0), (0, 10, 17, 15, 1)]
def F_L_exit : List am_V → am_H → Option am_O := am_fn T_L_exit X_L_exit 5 (some .int) am_rs0 H_L_exit [] 400 (rm_L_exit.cells, rm_L_exit.slots)
theorem wc_L_exit : Cond.codeWith y_L_exit method_5_code 5 (some .int) (am_tb H_L_exit) ∈ lw_good := w_2_38
set_option maxRecDepth 100000 in
theorem M_L_exit {l : Launch} (hl : l.stackTraces = false) : am_M am_cl0 am_rs0 am_zs0 l y_L_exit (Cond.codeWith y_L_exit method_5_code 5 (some .int) (am_tb H_L_exit) :: lw_good) rm_L_exit (F_L_exit) := am_methH hl (by decide +kernel) (by decide +kernel) (am_okx fun p e s m args below meth c D tc A n0 ad0 C hm => List.forall_mem_cons.mpr ⟨op_L_3_23 C hl ⟨by decide, by decide⟩, fun q hq => nomatch hq⟩)
  (by
    intro q hq
    match q, hq with
    | _, List.Mem.head _ => exact ⟨by decide, by decide, w_1_149, List.mem_of_getElem? (i := 0) rfl⟩
    | _, List.Mem.tail _ (List.Mem.head _) => exact ⟨by decide, by decide, w_1_150, List.mem_of_getElem? (i := 1) rfl⟩)
set_option maxRecDepth 10000 in
theorem op_L_3_26 (C : am_Cx p l R s m args meth c cc nL (c0 :: lw_good) RL D am_cl0 tc A am_rs0 am_zs0 hs ad0) (hl : l.stackTraces = false) (hR : rm_X1_await.frames + 1 ≤ R.frames ∧ 8 + (3 + 11) + rm_X1_await.locals ≤ R.locals) : am_op p l e R s m args below meth c D am_cl0 tc A nL n0 ad0 cc (3, 26) (am_fci (some 1) 2 F_X1_await rm_X1_await.cells rm_X1_await.slots) := am_fci_ok C (am_rn_V C rfl (M_X1_await hl) rfl (am_gd wc_X1_await) (am_tl w_2_51) (am_tl w_2_52) (am_tl w_2_53) (am_tl w_1_1) (by decide +kernel) hR)
def X_L_await : am_X := [((3, 26), (am_fci (some 1) 2 F_X1_await rm_X1_await.cells rm_X1_await.slots))]
def H_L_await : am_Hs := [(0, 9, 12, 13, 0), (0, 9, 15, 15, 1), (0, 9, 18, 17, 2), (0, 9, 21, 29, 3)]
def F_L_await : List am_V → am_H → Option am_O := am_fn T_L_await X_L_await 4 (some .int) am_rs0 H_L_await [] 400 (rm_L_await.cells, rm_L_await.slots)
theorem wc_L_await : Cond.codeWith y_L_await method_6_code 4 (some .int) (am_tb H_L_await) ∈ lw_good := w_2_49
set_option maxRecDepth 100000 in
theorem M_L_await {l : Launch} (hl : l.stackTraces = false) : am_M am_cl0 am_rs0 am_zs0 l y_L_await (Cond.codeWith y_L_await method_6_code 4 (some .int) (am_tb H_L_await) :: lw_good) rm_L_await (F_L_await) := am_methH hl (by decide +kernel) (by decide +kernel) (am_okx fun p e s m args below meth c D tc A n0 ad0 C hm => List.forall_mem_cons.mpr ⟨op_L_3_26 C hl ⟨by decide, by decide⟩, fun q hq => nomatch hq⟩)
  (by
    intro q hq
    match q, hq with
    | _, List.Mem.head _ => exact ⟨by decide, by decide, w_1_149, List.mem_of_getElem? (i := 0) rfl⟩
    | _, List.Mem.tail _ (List.Mem.head _) => exact ⟨by decide, by decide, w_1_150, List.mem_of_getElem? (i := 1) rfl⟩
    | _, List.Mem.tail _ (List.Mem.tail _ (List.Mem.head _)) => exact ⟨by decide, by decide, w_1_151, List.mem_of_getElem? (i := 2) rfl⟩
    | _, List.Mem.tail _ (List.Mem.tail _ (List.Mem.tail _ (List.Mem.head _))) => exact ⟨by decide, by decide, w_2_50, List.mem_of_getElem? (i := 3) rfl⟩)
set_option maxRecDepth 10000 in
theorem op_L_3_31 (C : am_Cx p l R s m args meth c cc nL (c0 :: lw_good) RL D am_cl0 tc A am_rs0 am_zs0 hs ad0) (hl : l.stackTraces = false) (hR : rm_X1_grow.frames + 1 ≤ R.frames ∧ 8 + (5 + 11) + rm_X1_grow.locals ≤ R.locals) : am_op p l e R s m args below meth c D am_cl0 tc A nL n0 ad0 cc (3, 31) (am_fci (some 1) 3 F_X1_grow rm_X1_grow.cells rm_X1_grow.slots) := am_fci_ok C (am_rn_V C rfl (M_X1_grow hl) rfl (am_gd wc_X1_grow) (am_tl w_2_81) (am_tl w_2_82) (am_tl w_2_83) (am_tl w_1_1) (by decide +kernel) hR)
def X_L_grow : am_X := [((3, 31), (am_fci (some 1) 3 F_X1_grow rm_X1_grow.cells rm_X1_grow.slots))]
def H_L_grow : am_Hs := [(0, 10, 13, 13, 0), (0, 10, 17, 15, 1), (0, 10, 21, 17, 2)]
def F_L_grow : List am_V → am_H → Option am_O := am_fn T_L_grow X_L_grow 5 (some .int) am_rs0 H_L_grow [] 400 (rm_L_grow.cells, rm_L_grow.slots)
theorem wc_L_grow : Cond.codeWith y_L_grow method_7_code 5 (some .int) (am_tb H_L_grow) ∈ lw_good := w_2_80
set_option maxRecDepth 100000 in
theorem M_L_grow {l : Launch} (hl : l.stackTraces = false) : am_M am_cl0 am_rs0 am_zs0 l y_L_grow (Cond.codeWith y_L_grow method_7_code 5 (some .int) (am_tb H_L_grow) :: lw_good) rm_L_grow (F_L_grow) := am_methH hl (by decide +kernel) (by decide +kernel) (am_okx fun p e s m args below meth c D tc A n0 ad0 C hm => List.forall_mem_cons.mpr ⟨op_L_3_31 C hl ⟨by decide, by decide⟩, fun q hq => nomatch hq⟩)
  (by
    intro q hq
    match q, hq with
    | _, List.Mem.head _ => exact ⟨by decide, by decide, w_1_149, List.mem_of_getElem? (i := 0) rfl⟩
    | _, List.Mem.tail _ (List.Mem.head _) => exact ⟨by decide, by decide, w_1_150, List.mem_of_getElem? (i := 1) rfl⟩
    | _, List.Mem.tail _ (List.Mem.tail _ (List.Mem.head _)) => exact ⟨by decide, by decide, w_1_151, List.mem_of_getElem? (i := 2) rfl⟩)
set_option maxRecDepth 10000 in
theorem op_L_3_34 (C : am_Cx p l R s m args meth c cc nL (c0 :: lw_good) RL D am_cl0 tc A am_rs0 am_zs0 hs ad0) (hl : l.stackTraces = false) (hR : rm_X1_read.frames + 1 ≤ R.frames ∧ 8 + (4 + 11) + rm_X1_read.locals ≤ R.locals) : am_op p l e R s m args below meth c D am_cl0 tc A nL n0 ad0 cc (3, 34) (am_fci (some 1) 3 F_X1_read rm_X1_read.cells rm_X1_read.slots) := am_fci_ok C (am_rn_V C rfl (M_X1_read hl) rfl (am_gd wc_X1_read) (am_tl w_2_89) (am_tl w_2_90) (am_tl w_2_91) (am_tl w_1_1) (by decide +kernel) hR)
def X_L_read : am_X := [((3, 34), (am_fci (some 1) 3 F_X1_read rm_X1_read.cells rm_X1_read.slots))]
def H_L_read : am_Hs := [(0, 10, 13, 13, 0), (0, 10, 17, 15, 1), (0, 10, 21, 37, 4), (0, 10, 25, 29, 3)]
def F_L_read : List am_V → am_H → Option am_O := am_fn T_L_read X_L_read 5 (some .int) am_rs0 H_L_read [] 400 (rm_L_read.cells, rm_L_read.slots)
theorem wc_L_read : Cond.codeWith y_L_read method_8_code 5 (some .int) (am_tb H_L_read) ∈ lw_good := w_2_87
set_option maxRecDepth 100000 in
theorem M_L_read {l : Launch} (hl : l.stackTraces = false) : am_M am_cl0 am_rs0 am_zs0 l y_L_read (Cond.codeWith y_L_read method_8_code 5 (some .int) (am_tb H_L_read) :: lw_good) rm_L_read (F_L_read) := am_methH hl (by decide +kernel) (by decide +kernel) (am_okx fun p e s m args below meth c D tc A n0 ad0 C hm => List.forall_mem_cons.mpr ⟨op_L_3_34 C hl ⟨by decide, by decide⟩, fun q hq => nomatch hq⟩)
  (by
    intro q hq
    match q, hq with
    | _, List.Mem.head _ => exact ⟨by decide, by decide, w_1_149, List.mem_of_getElem? (i := 0) rfl⟩
    | _, List.Mem.tail _ (List.Mem.head _) => exact ⟨by decide, by decide, w_1_150, List.mem_of_getElem? (i := 1) rfl⟩
    | _, List.Mem.tail _ (List.Mem.tail _ (List.Mem.head _)) => exact ⟨by decide, by decide, w_2_88, List.mem_of_getElem? (i := 4) rfl⟩
    | _, List.Mem.tail _ (List.Mem.tail _ (List.Mem.tail _ (List.Mem.head _))) => exact ⟨by decide, by decide, w_2_50, List.mem_of_getElem? (i := 3) rfl⟩)
set_option maxRecDepth 10000 in
theorem op_L_3_39 (C : am_Cx p l R s m args meth c cc nL (c0 :: lw_good) RL D am_cl0 tc A am_rs0 am_zs0 hs ad0) (hl : l.stackTraces = false) (hR : rm_X1_write.frames + 1 ≤ R.frames ∧ 8 + (7 + 11) + rm_X1_write.locals ≤ R.locals) : am_op p l e R s m args below meth c D am_cl0 tc A nL n0 ad0 cc (3, 39) (am_fci (some 1) 4 F_X1_write rm_X1_write.cells rm_X1_write.slots) := am_fci_ok C (am_rn_V C rfl (M_X1_write hl) rfl (am_gd wc_X1_write) (am_tl w_2_157) (am_tl w_2_158) (am_tl w_2_159) (am_tl w_1_1) (by decide +kernel) hR)
def X_L_write : am_X := [((3, 39), (am_fci (some 1) 4 F_X1_write rm_X1_write.cells rm_X1_write.slots))]
def H_L_write : am_Hs := [(0, 12, 15, 13, 0), (0, 12, 19, 15, 1), (0, 12, 23, 37, 4), (0, 12, 27, 17, 2), (0, 12, 31, 29, 3)]
def F_L_write : List am_V → am_H → Option am_O := am_fn T_L_write X_L_write 6 (some .int) am_rs0 H_L_write [] 400 (rm_L_write.cells, rm_L_write.slots)
theorem wc_L_write : Cond.codeWith y_L_write method_9_code 6 (some .int) (am_tb H_L_write) ∈ lw_good := w_2_156
set_option maxRecDepth 100000 in
theorem M_L_write {l : Launch} (hl : l.stackTraces = false) : am_M am_cl0 am_rs0 am_zs0 l y_L_write (Cond.codeWith y_L_write method_9_code 6 (some .int) (am_tb H_L_write) :: lw_good) rm_L_write (F_L_write) := am_methH hl (by decide +kernel) (by decide +kernel) (am_okx fun p e s m args below meth c D tc A n0 ad0 C hm => List.forall_mem_cons.mpr ⟨op_L_3_39 C hl ⟨by decide, by decide⟩, fun q hq => nomatch hq⟩)
  (by
    intro q hq
    match q, hq with
    | _, List.Mem.head _ => exact ⟨by decide, by decide, w_1_149, List.mem_of_getElem? (i := 0) rfl⟩
    | _, List.Mem.tail _ (List.Mem.head _) => exact ⟨by decide, by decide, w_1_150, List.mem_of_getElem? (i := 1) rfl⟩
    | _, List.Mem.tail _ (List.Mem.tail _ (List.Mem.head _)) => exact ⟨by decide, by decide, w_2_88, List.mem_of_getElem? (i := 4) rfl⟩
    | _, List.Mem.tail _ (List.Mem.tail _ (List.Mem.tail _ (List.Mem.head _))) => exact ⟨by decide, by decide, w_1_151, List.mem_of_getElem? (i := 2) rfl⟩
    | _, List.Mem.tail _ (List.Mem.tail _ (List.Mem.tail _ (List.Mem.tail _ (List.Mem.head _)))) => exact ⟨by decide, by decide, w_2_50, List.mem_of_getElem? (i := 3) rfl⟩)
set_option maxRecDepth 10000 in
theorem op_L_3_43 (C : am_Cx p l R s m args meth c cc nL (c0 :: lw_good) RL D am_cl0 tc A am_rs0 am_zs0 hs ad0) (hl : l.stackTraces = false) (hR : rm_X1_sweep.frames + 1 ≤ R.frames ∧ 8 + (4 + 11) + rm_X1_sweep.locals ≤ R.locals) : am_op p l e R s m args below meth c D am_cl0 tc A nL n0 ad0 cc (3, 43) (am_fci (some 1) 2 F_X1_sweep rm_X1_sweep.cells rm_X1_sweep.slots) := am_fci_ok C (am_rn_V C rfl (M_X1_sweep hl) rfl (am_gd wc_X1_sweep) (am_tl w_2_178) (am_tl w_2_179) (am_tl w_2_180) (am_tl w_1_1) (by decide +kernel) hR)
def X_L_sweep : am_X := [((3, 43), (am_fci (some 1) 2 F_X1_sweep rm_X1_sweep.cells rm_X1_sweep.slots))]
def H_L_sweep : am_Hs := [(0, 9, 12, 13, 0)]
def F_L_sweep : List am_V → am_H → Option am_O := am_fn T_L_sweep X_L_sweep 4 (some .int) am_rs0 H_L_sweep [] 400 (rm_L_sweep.cells, rm_L_sweep.slots)
theorem wc_L_sweep : Cond.codeWith y_L_sweep method_10_code 4 (some .int) (am_tb H_L_sweep) ∈ lw_good := w_2_177
set_option maxRecDepth 100000 in
theorem M_L_sweep {l : Launch} (hl : l.stackTraces = false) : am_M am_cl0 am_rs0 am_zs0 l y_L_sweep (Cond.codeWith y_L_sweep method_10_code 4 (some .int) (am_tb H_L_sweep) :: lw_good) rm_L_sweep (F_L_sweep) := am_methH hl (by decide +kernel) (by decide +kernel) (am_okx fun p e s m args below meth c D tc A n0 ad0 C hm => List.forall_mem_cons.mpr ⟨op_L_3_43 C hl ⟨by decide, by decide⟩, fun q hq => nomatch hq⟩)
  (by
    intro q hq
    match q, hq with
    | _, List.Mem.head _ => exact ⟨by decide, by decide, w_1_149, List.mem_of_getElem? (i := 0) rfl⟩)
set_option maxRecDepth 10000 in
theorem op_L_3_46 (C : am_Cx p l R s m args meth c cc nL (c0 :: lw_good) RL D am_cl0 tc A am_rs0 am_zs0 hs ad0) (hl : l.stackTraces = false) (hR : rm_X1_swapOut.frames + 1 ≤ R.frames ∧ 8 + (5 + 11) + rm_X1_swapOut.locals ≤ R.locals) : am_op p l e R s m args below meth c D am_cl0 tc A nL n0 ad0 cc (3, 46) (am_fci (some 1) 2 F_X1_swapOut rm_X1_swapOut.cells rm_X1_swapOut.slots) := am_fci_ok C (am_rn_V C rfl (M_X1_swapOut hl) rfl (am_gd wc_X1_swapOut) (am_tl w_2_186) (am_tl w_2_187) (am_tl w_2_188) (am_tl w_1_1) (by decide +kernel) hR)
def X_L_swapOut : am_X := [((3, 46), (am_fci (some 1) 2 F_X1_swapOut rm_X1_swapOut.cells rm_X1_swapOut.slots))]
def H_L_swapOut : am_Hs := [(0, 9, 12, 13, 0), (0, 9, 15, 15, 1)]
def F_L_swapOut : List am_V → am_H → Option am_O := am_fn T_L_swapOut X_L_swapOut 4 (some .int) am_rs0 H_L_swapOut [] 400 (rm_L_swapOut.cells, rm_L_swapOut.slots)
theorem wc_L_swapOut : Cond.codeWith y_L_swapOut method_11_code 4 (some .int) (am_tb H_L_swapOut) ∈ lw_good := w_2_185
set_option maxRecDepth 100000 in
theorem M_L_swapOut {l : Launch} (hl : l.stackTraces = false) : am_M am_cl0 am_rs0 am_zs0 l y_L_swapOut (Cond.codeWith y_L_swapOut method_11_code 4 (some .int) (am_tb H_L_swapOut) :: lw_good) rm_L_swapOut (F_L_swapOut) := am_methH hl (by decide +kernel) (by decide +kernel) (am_okx fun p e s m args below meth c D tc A n0 ad0 C hm => List.forall_mem_cons.mpr ⟨op_L_3_46 C hl ⟨by decide, by decide⟩, fun q hq => nomatch hq⟩)
  (by
    intro q hq
    match q, hq with
    | _, List.Mem.head _ => exact ⟨by decide, by decide, w_1_149, List.mem_of_getElem? (i := 0) rfl⟩
    | _, List.Mem.tail _ (List.Mem.head _) => exact ⟨by decide, by decide, w_1_150, List.mem_of_getElem? (i := 1) rfl⟩)
set_option maxRecDepth 10000 in
theorem op_L_3_49 (C : am_Cx p l R s m args meth c cc nL (c0 :: lw_good) RL D am_cl0 tc A am_rs0 am_zs0 hs ad0) (hl : l.stackTraces = false) (hR : rm_X1_where.frames + 1 ≤ R.frames ∧ 8 + (3 + 11) + rm_X1_where.locals ≤ R.locals) : am_op p l e R s m args below meth c D am_cl0 tc A nL n0 ad0 cc (3, 49) (am_fci (some 1) 3 F_X1_where rm_X1_where.cells rm_X1_where.slots) := am_fci_ok C (am_rn_V C rfl (M_X1_where hl) rfl (am_gd wc_X1_where) (am_tl w_2_197) (am_tl w_2_198) (am_tl w_2_199) (am_tl w_1_1) (by decide +kernel) hR)
def X_L_where : am_X := [((3, 49), (am_fci (some 1) 3 F_X1_where rm_X1_where.cells rm_X1_where.slots))]
def H_L_where : am_Hs := [(0, 10, 13, 13, 0), (0, 10, 17, 15, 1), (0, 10, 21, 37, 4)]
def F_L_where : List am_V → am_H → Option am_O := am_fn T_L_where X_L_where 5 (some .int) am_rs0 H_L_where [] 400 (rm_L_where.cells, rm_L_where.slots)
theorem wc_L_where : Cond.codeWith y_L_where method_12_code 5 (some .int) (am_tb H_L_where) ∈ lw_good := w_2_196
set_option maxRecDepth 100000 in
theorem M_L_where {l : Launch} (hl : l.stackTraces = false) : am_M am_cl0 am_rs0 am_zs0 l y_L_where (Cond.codeWith y_L_where method_12_code 5 (some .int) (am_tb H_L_where) :: lw_good) rm_L_where (F_L_where) := am_methH hl (by decide +kernel) (by decide +kernel) (am_okx fun p e s m args below meth c D tc A n0 ad0 C hm => List.forall_mem_cons.mpr ⟨op_L_3_49 C hl ⟨by decide, by decide⟩, fun q hq => nomatch hq⟩)
  (by
    intro q hq
    match q, hq with
    | _, List.Mem.head _ => exact ⟨by decide, by decide, w_1_149, List.mem_of_getElem? (i := 0) rfl⟩
    | _, List.Mem.tail _ (List.Mem.head _) => exact ⟨by decide, by decide, w_1_150, List.mem_of_getElem? (i := 1) rfl⟩
    | _, List.Mem.tail _ (List.Mem.tail _ (List.Mem.head _)) => exact ⟨by decide, by decide, w_2_88, List.mem_of_getElem? (i := 4) rfl⟩)
set_option maxRecDepth 10000 in
theorem op_L_3_52 (C : am_Cx p l R s m args meth c cc nL (c0 :: lw_good) RL D am_cl0 tc A am_rs0 am_zs0 hs ad0) (hl : l.stackTraces = false) (hR : rm_X1_sharers.frames + 1 ≤ R.frames ∧ 8 + (3 + 11) + rm_X1_sharers.locals ≤ R.locals) : am_op p l e R s m args below meth c D am_cl0 tc A nL n0 ad0 cc (3, 52) (am_fci (some 1) 3 F_X1_sharers rm_X1_sharers.cells rm_X1_sharers.slots) := am_fci_ok C (am_rn_V C rfl (M_X1_sharers hl) rfl (am_gd wc_X1_sharers) (am_tl w_2_208) (am_tl w_2_209) (am_tl w_2_210) (am_tl w_1_1) (by decide +kernel) hR)
def X_L_sharers : am_X := [((3, 52), (am_fci (some 1) 3 F_X1_sharers rm_X1_sharers.cells rm_X1_sharers.slots))]
def H_L_sharers : am_Hs := [(0, 10, 13, 13, 0), (0, 10, 17, 15, 1), (0, 10, 21, 37, 4)]
def F_L_sharers : List am_V → am_H → Option am_O := am_fn T_L_sharers X_L_sharers 5 (some .int) am_rs0 H_L_sharers [] 400 (rm_L_sharers.cells, rm_L_sharers.slots)
theorem wc_L_sharers : Cond.codeWith y_L_sharers method_13_code 5 (some .int) (am_tb H_L_sharers) ∈ lw_good := w_2_207
set_option maxRecDepth 100000 in
theorem M_L_sharers {l : Launch} (hl : l.stackTraces = false) : am_M am_cl0 am_rs0 am_zs0 l y_L_sharers (Cond.codeWith y_L_sharers method_13_code 5 (some .int) (am_tb H_L_sharers) :: lw_good) rm_L_sharers (F_L_sharers) := am_methH hl (by decide +kernel) (by decide +kernel) (am_okx fun p e s m args below meth c D tc A n0 ad0 C hm => List.forall_mem_cons.mpr ⟨op_L_3_52 C hl ⟨by decide, by decide⟩, fun q hq => nomatch hq⟩)
  (by
    intro q hq
    match q, hq with
    | _, List.Mem.head _ => exact ⟨by decide, by decide, w_1_149, List.mem_of_getElem? (i := 0) rfl⟩
    | _, List.Mem.tail _ (List.Mem.head _) => exact ⟨by decide, by decide, w_1_150, List.mem_of_getElem? (i := 1) rfl⟩
    | _, List.Mem.tail _ (List.Mem.tail _ (List.Mem.head _)) => exact ⟨by decide, by decide, w_2_88, List.mem_of_getElem? (i := 4) rfl⟩)
set_option maxRecDepth 10000 in
theorem op_L_3_55 (C : am_Cx p l R s m args meth c cc nL (c0 :: lw_good) RL D am_cl0 tc A am_rs0 am_zs0 hs ad0) (hl : l.stackTraces = false) (hR : rm_X1_fact.frames + 1 ≤ R.frames ∧ 8 + (3 + 11) + rm_X1_fact.locals ≤ R.locals) : am_op p l e R s m args below meth c D am_cl0 tc A nL n0 ad0 cc (3, 55) (am_fci (some 1) 3 F_X1_fact rm_X1_fact.cells rm_X1_fact.slots) := am_fci_ok C (am_rn_V C rfl (M_X1_fact hl) rfl (am_gd wc_X1_fact) (am_tl w_2_219) (am_tl w_2_220) (am_tl w_2_221) (am_tl w_1_1) (by decide +kernel) hR)
def X_L_fact : am_X := [((3, 55), (am_fci (some 1) 3 F_X1_fact rm_X1_fact.cells rm_X1_fact.slots))]
def H_L_fact : am_Hs := [(0, 10, 13, 13, 0)]
def F_L_fact : List am_V → am_H → Option am_O := am_fn T_L_fact X_L_fact 5 (some .int) am_rs0 H_L_fact [] 400 (rm_L_fact.cells, rm_L_fact.slots)
theorem wc_L_fact : Cond.codeWith y_L_fact method_14_code 5 (some .int) (am_tb H_L_fact) ∈ lw_good := w_2_218
set_option maxRecDepth 100000 in
theorem M_L_fact {l : Launch} (hl : l.stackTraces = false) : am_M am_cl0 am_rs0 am_zs0 l y_L_fact (Cond.codeWith y_L_fact method_14_code 5 (some .int) (am_tb H_L_fact) :: lw_good) rm_L_fact (F_L_fact) := am_methH hl (by decide +kernel) (by decide +kernel) (am_okx fun p e s m args below meth c D tc A n0 ad0 C hm => List.forall_mem_cons.mpr ⟨op_L_3_55 C hl ⟨by decide, by decide⟩, fun q hq => nomatch hq⟩)
  (by
    intro q hq
    match q, hq with
    | _, List.Mem.head _ => exact ⟨by decide, by decide, w_1_149, List.mem_of_getElem? (i := 0) rfl⟩)
set_option maxRecDepth 10000 in
theorem op_L_3_58 (C : am_Cx p l R s m args meth c cc nL (c0 :: lw_good) RL D am_cl0 tc A am_rs0 am_zs0 hs ad0) (hl : l.stackTraces = false) (hR : rm_X1_count.frames + 1 ≤ R.frames ∧ 8 + (2 + 11) + rm_X1_count.locals ≤ R.locals) : am_op p l e R s m args below meth c D am_cl0 tc A nL n0 ad0 cc (3, 58) (am_fci (some 1) 2 F_X1_count rm_X1_count.cells rm_X1_count.slots) := am_fci_ok C (am_rn_V C rfl (M_X1_count hl) rfl (am_gd wc_X1_count) (am_tl w_2_226) (am_tl w_2_227) (am_tl w_2_228) (am_tl w_1_1) (by decide +kernel) hR)
def X_L_count : am_X := [((3, 58), (am_fci (some 1) 2 F_X1_count rm_X1_count.cells rm_X1_count.slots))]
def H_L_count : am_Hs := [(0, 9, 12, 13, 0)]
def F_L_count : List am_V → am_H → Option am_O := am_fn T_L_count X_L_count 4 (some .int) am_rs0 H_L_count [] 400 (rm_L_count.cells, rm_L_count.slots)
theorem wc_L_count : Cond.codeWith y_L_count method_15_code 4 (some .int) (am_tb H_L_count) ∈ lw_good := w_2_225
set_option maxRecDepth 100000 in
theorem M_L_count {l : Launch} (hl : l.stackTraces = false) : am_M am_cl0 am_rs0 am_zs0 l y_L_count (Cond.codeWith y_L_count method_15_code 4 (some .int) (am_tb H_L_count) :: lw_good) rm_L_count (F_L_count) := am_methH hl (by decide +kernel) (by decide +kernel) (am_okx fun p e s m args below meth c D tc A n0 ad0 C hm => List.forall_mem_cons.mpr ⟨op_L_3_58 C hl ⟨by decide, by decide⟩, fun q hq => nomatch hq⟩)
  (by
    intro q hq
    match q, hq with
    | _, List.Mem.head _ => exact ⟨by decide, by decide, w_1_149, List.mem_of_getElem? (i := 0) rfl⟩)
end AMP
end
section
section AMP
variable {p : Program} {l : Launch} {e : Env} {R : Room} {s : State} {m : MethodId} {args : Array Value} {below : List Frame} {meth : Method} {c : Code} {D : va_G} {tc : Nat → ClassId} {A : Nat → Prop} {nL n0 : Nat} {ad0 : am_A} {cc : ByteArray} {c0 : Cond} {hs : am_Hs} {rs : Nat → Option (Nat × (Nat → Int32))}
theorem op_L_5_8 (C : am_Cx p l R s m args meth c cc nL (c0 :: lw_good) RL D am_cl0 tc A rs am_zs0 hs ad0) : am_op p l e R s m args below meth c D am_cl0 tc A nL n0 ad0 cc (5, 8) (am_fnew 1 8 [.inl .null, .inl .null, .inl .null, .inl .null, .inl .null, .inl .null, .inl .null, .inl .null]) := am_fnew_ok (N := 8) (T := TX1) C [.null, .null, .null, .null, .null, .null, .null, .null] (fun _ => rfl) rfl (fun w hw => am_tl (hinX1 w hw)) tyX1 tyX1_ok (am_tl w_1_15) (am_tl w_1_16) (am_tl w_1_1) (by decide +kernel)
set_option maxRecDepth 10000 in
theorem op_L_2_61 (C : am_Cx p l R s m args meth c cc nL (c0 :: lw_good) RL D am_cl0 tc A rs am_zs0 hs ad0) (hl : l.stackTraces = false) (hR : rm_L_cell.frames + 1 ≤ R.frames ∧ 8 + (2 + 11) + rm_L_cell.locals ≤ R.locals) : am_op p l e R s m args below meth c D am_cl0 tc A nL n0 ad0 cc (2, 61) (am_fci none 2 (F_L_cell rs) rm_L_cell.cells rm_L_cell.slots) := am_fci_ok C (am_rn_S C (M_L_cell hl) rfl (am_gd wc_L_cell) (am_tl w_1_143) (am_tl w_1_144) (am_tl w_1_0) (by decide +kernel) hR)
set_option maxRecDepth 10000 in
theorem op_L_4_67 (C : am_Cx p l R s m args meth c cc nL (c0 :: lw_good) RL D am_cl0 tc A am_rs0 am_zs0 hs ad0) (hl : l.stackTraces = false) (hR : rm_X1_init.frames + 1 ≤ R.frames ∧ 8 + (4 + 11) + rm_X1_init.locals ≤ R.locals) : am_op p l e R s m args below meth c D am_cl0 tc A nL n0 ad0 cc (4, 67) (am_fcv (some 1) 3 (am_nx F_X1_init) rm_X1_init.cells rm_X1_init.slots) := am_fcv_ok C (am_rn_I C (M_X1_init hl) rfl rfl (am_gd wc_X1_init) (am_tl w_1_17) (am_tl w_1_18) (am_tl w_1_1) (by decide +kernel) hR)
theorem op_L_5_70 (C : am_Cx p l R s m args meth c cc nL (c0 :: lw_good) RL D am_cl0 tc A rs am_zs0 hs ad0) : am_op p l e R s m args below meth c D am_cl0 tc A nL n0 ad0 cc (5, 70) (am_fnew 2 20 [.inl (.int 0), .inl (.int 0), .inl (.int 0), .inl .null, .inl .null, .inl .null, .inl .null, .inl .null, .inl .null, .inl .null, .inl .null, .inl .null, .inl .null, .inl .null, .inl .null, .inl .null, .inl (.int 0), .inl (.int 0), .inl (.int 0), .inl (.int 0)]) := am_fnew_ok (N := 20) (T := TX2) C [.int 0, .int 0, .int 0, .null, .null, .null, .null, .null, .null, .null, .null, .null, .null, .null, .null, .null, .int 0, .int 0, .int 0, .int 0] (fun _ => rfl) rfl (fun w hw => am_tl (hinX2 w hw)) tyX2 tyX2_ok (am_tl w_3_5) (am_tl w_3_6) (am_tl w_1_5) (by decide +kernel)
set_option maxRecDepth 10000 in
theorem op_L_4_72 (C : am_Cx p l R s m args meth c cc nL (c0 :: lw_good) RL D am_cl0 tc A am_rs0 am_zs0 hs ad0) (hl : l.stackTraces = false) (hR : rm_X2_init.frames + 1 ≤ R.frames ∧ 8 + (4 + 11) + rm_X2_init.locals ≤ R.locals) : am_op p l e R s m args below meth c D am_cl0 tc A nL n0 ad0 cc (4, 72) (am_fcv (some 2) 3 (am_nx F_X2_init) rm_X2_init.cells rm_X2_init.slots) := am_fcv_ok C (am_rn_I C (M_X2_init hl) rfl rfl (am_gd wc_X2_init) (am_tl w_3_7) (am_tl w_3_8) (am_tl w_1_5) (by decide +kernel) hR)
theorem op_L_8_2 (C : am_Cx p l R s m args meth c cc nL (c0 :: lw_good) RL D am_cl0 tc A rs am_zs0 hs ad0) : am_op p l e R s m args below meth c D am_cl0 tc A nL n0 ad0 cc (8, 2) (am_fna 2) := am_fna_ok C (Or.inr (Or.inr ⟨rfl, am_tl w_3_208⟩))
set_option maxRecDepth 10000 in
theorem op_L_2_73 (C : am_Cx p l R s m args meth c cc nL (c0 :: lw_good) RL D am_cl0 tc A am_rs0 am_zs0 hs ad0) (hl : l.stackTraces = false) (hR : rm_L_fork.frames + 1 ≤ R.frames ∧ 8 + (4 + 11) + rm_L_fork.locals ≤ R.locals) : am_op p l e R s m args below meth c D am_cl0 tc A nL n0 ad0 cc (2, 73) (am_fci none 3 F_L_fork rm_L_fork.cells rm_L_fork.slots) := am_fci_ok C (am_rn_SX C (M_L_fork hl) rfl (am_gd wc_L_fork) (am_tl w_1_146) (am_tl w_1_147) (am_tl w_1_0) (by decide +kernel) hR)
set_option maxRecDepth 10000 in
theorem op_L_3_76 (C : am_Cx p l R s m args meth c cc nL (c0 :: lw_good) RL D am_cl0 tc A am_rs0 am_zs0 hs ad0) (hl : l.stackTraces = false) (hR : rm_X2_fork.frames + 1 ≤ R.frames ∧ 8 + (4 + 11) + rm_X2_fork.locals ≤ R.locals) : am_op p l e R s m args below meth c D am_cl0 tc A nL n0 ad0 cc (3, 76) (am_fci (some 2) 2 F_X2_fork rm_X2_fork.cells rm_X2_fork.slots) := am_fci_ok C (am_rn_V C rfl (M_X2_fork hl) rfl (am_gd wc_X2_fork) (am_tl w_3_84) (am_tl w_3_85) (am_tl w_3_86) (am_tl w_1_5) (by decide +kernel) hR)
set_option maxRecDepth 10000 in
theorem op_L_3_77 (C : am_Cx p l R s m args meth c cc nL (c0 :: lw_good) RL D am_cl0 tc A am_rs0 am_zs0 hs ad0) (hl : l.stackTraces = false) (hR : rm_X2_thrown.frames + 1 ≤ R.frames ∧ 8 + (1 + 11) + rm_X2_thrown.locals ≤ R.locals) : am_op p l e R s m args below meth c D am_cl0 tc A nL n0 ad0 cc (3, 77) (am_fci (some 2) 1 F_X2_thrown rm_X2_thrown.cells rm_X2_thrown.slots) := am_fci_ok C (am_rn_V C rfl (M_X2_thrown hl) rfl (am_gd wc_X2_thrown) (am_tl w_3_80) (am_tl w_3_81) (am_tl w_3_82) (am_tl w_1_5) (by decide +kernel) hR)
set_option maxRecDepth 10000 in
theorem op_L_2_81 (C : am_Cx p l R s m args meth c cc nL (c0 :: lw_good) RL D am_cl0 tc A am_rs0 am_zs0 hs ad0) (hl : l.stackTraces = false) (hR : rm_L_exec.frames + 1 ≤ R.frames ∧ 8 + (5 + 11) + rm_L_exec.locals ≤ R.locals) : am_op p l e R s m args below meth c D am_cl0 tc A nL n0 ad0 cc (2, 81) (am_fci none 4 F_L_exec rm_L_exec.cells rm_L_exec.slots) := am_fci_ok C (am_rn_SX C (M_L_exec hl) rfl (am_gd wc_L_exec) (am_tl w_2_29) (am_tl w_2_30) (am_tl w_1_0) (by decide +kernel) hR)
set_option maxRecDepth 10000 in
theorem op_L_3_84 (C : am_Cx p l R s m args meth c cc nL (c0 :: lw_good) RL D am_cl0 tc A am_rs0 am_zs0 hs ad0) (hl : l.stackTraces = false) (hR : rm_X2_exec.frames + 1 ≤ R.frames ∧ 8 + (3 + 11) + rm_X2_exec.locals ≤ R.locals) : am_op p l e R s m args below meth c D am_cl0 tc A nL n0 ad0 cc (3, 84) (am_fci (some 2) 3 F_X2_exec rm_X2_exec.cells rm_X2_exec.slots) := am_fci_ok C (am_rn_V C rfl (M_X2_exec hl) rfl (am_gd wc_X2_exec) (am_tl w_3_100) (am_tl w_3_101) (am_tl w_3_102) (am_tl w_1_5) (by decide +kernel) hR)
set_option maxRecDepth 10000 in
theorem op_L_2_85 (C : am_Cx p l R s m args meth c cc nL (c0 :: lw_good) RL D am_cl0 tc A am_rs0 am_zs0 hs ad0) (hl : l.stackTraces = false) (hR : rm_L_exit.frames + 1 ≤ R.frames ∧ 8 + (5 + 11) + rm_L_exit.locals ≤ R.locals) : am_op p l e R s m args below meth c D am_cl0 tc A nL n0 ad0 cc (2, 85) (am_fci none 4 F_L_exit rm_L_exit.cells rm_L_exit.slots) := am_fci_ok C (am_rn_SX C (M_L_exit hl) rfl (am_gd wc_L_exit) (am_tl w_2_36) (am_tl w_2_37) (am_tl w_1_0) (by decide +kernel) hR)
set_option maxRecDepth 10000 in
theorem op_L_3_87 (C : am_Cx p l R s m args meth c cc nL (c0 :: lw_good) RL D am_cl0 tc A am_rs0 am_zs0 hs ad0) (hl : l.stackTraces = false) (hR : rm_X2_exit.frames + 1 ≤ R.frames ∧ 8 + (5 + 11) + rm_X2_exit.locals ≤ R.locals) : am_op p l e R s m args below meth c D am_cl0 tc A nL n0 ad0 cc (3, 87) (am_fci (some 2) 3 F_X2_exit rm_X2_exit.cells rm_X2_exit.slots) := am_fci_ok C (am_rn_V C rfl (M_X2_exit hl) rfl (am_gd wc_X2_exit) (am_tl w_3_120) (am_tl w_3_121) (am_tl w_3_122) (am_tl w_1_5) (by decide +kernel) hR)
set_option maxRecDepth 10000 in
theorem op_L_2_88 (C : am_Cx p l R s m args meth c cc nL (c0 :: lw_good) RL D am_cl0 tc A am_rs0 am_zs0 hs ad0) (hl : l.stackTraces = false) (hR : rm_L_await.frames + 1 ≤ R.frames ∧ 8 + (4 + 11) + rm_L_await.locals ≤ R.locals) : am_op p l e R s m args below meth c D am_cl0 tc A nL n0 ad0 cc (2, 88) (am_fci none 3 F_L_await rm_L_await.cells rm_L_await.slots) := am_fci_ok C (am_rn_SX C (M_L_await hl) rfl (am_gd wc_L_await) (am_tl w_2_47) (am_tl w_2_48) (am_tl w_1_0) (by decide +kernel) hR)
set_option maxRecDepth 10000 in
theorem op_L_3_90 (C : am_Cx p l R s m args meth c cc nL (c0 :: lw_good) RL D am_cl0 tc A am_rs0 am_zs0 hs ad0) (hl : l.stackTraces = false) (hR : rm_X2_await.frames + 1 ≤ R.frames ∧ 8 + (5 + 11) + rm_X2_await.locals ≤ R.locals) : am_op p l e R s m args below meth c D am_cl0 tc A nL n0 ad0 cc (3, 90) (am_fci (some 2) 2 F_X2_await rm_X2_await.cells rm_X2_await.slots) := am_fci_ok C (am_rn_V C rfl (M_X2_await hl) rfl (am_gd wc_X2_await) (am_tl w_3_124) (am_tl w_3_125) (am_tl w_3_126) (am_tl w_1_5) (by decide +kernel) hR)
set_option maxRecDepth 10000 in
theorem op_L_2_91 (C : am_Cx p l R s m args meth c cc nL (c0 :: lw_good) RL D am_cl0 tc A am_rs0 am_zs0 hs ad0) (hl : l.stackTraces = false) (hR : rm_L_grow.frames + 1 ≤ R.frames ∧ 8 + (5 + 11) + rm_L_grow.locals ≤ R.locals) : am_op p l e R s m args below meth c D am_cl0 tc A nL n0 ad0 cc (2, 91) (am_fci none 4 F_L_grow rm_L_grow.cells rm_L_grow.slots) := am_fci_ok C (am_rn_SX C (M_L_grow hl) rfl (am_gd wc_L_grow) (am_tl w_2_78) (am_tl w_2_79) (am_tl w_1_0) (by decide +kernel) hR)
set_option maxRecDepth 10000 in
theorem op_L_3_93 (C : am_Cx p l R s m args meth c cc nL (c0 :: lw_good) RL D am_cl0 tc A am_rs0 am_zs0 hs ad0) (hl : l.stackTraces = false) (hR : rm_X2_grow.frames + 1 ≤ R.frames ∧ 8 + (5 + 11) + rm_X2_grow.locals ≤ R.locals) : am_op p l e R s m args below meth c D am_cl0 tc A nL n0 ad0 cc (3, 93) (am_fci (some 2) 3 F_X2_grow rm_X2_grow.cells rm_X2_grow.slots) := am_fci_ok C (am_rn_V C rfl (M_X2_grow hl) rfl (am_gd wc_X2_grow) (am_tl w_3_128) (am_tl w_3_129) (am_tl w_3_130) (am_tl w_1_5) (by decide +kernel) hR)
set_option maxRecDepth 10000 in
theorem op_L_2_94 (C : am_Cx p l R s m args meth c cc nL (c0 :: lw_good) RL D am_cl0 tc A am_rs0 am_zs0 hs ad0) (hl : l.stackTraces = false) (hR : rm_L_read.frames + 1 ≤ R.frames ∧ 8 + (5 + 11) + rm_L_read.locals ≤ R.locals) : am_op p l e R s m args below meth c D am_cl0 tc A nL n0 ad0 cc (2, 94) (am_fci none 4 F_L_read rm_L_read.cells rm_L_read.slots) := am_fci_ok C (am_rn_SX C (M_L_read hl) rfl (am_gd wc_L_read) (am_tl w_2_85) (am_tl w_2_86) (am_tl w_1_0) (by decide +kernel) hR)
set_option maxRecDepth 10000 in
theorem op_L_3_96 (C : am_Cx p l R s m args meth c cc nL (c0 :: lw_good) RL D am_cl0 tc A am_rs0 am_zs0 hs ad0) (hl : l.stackTraces = false) (hR : rm_X2_read.frames + 1 ≤ R.frames ∧ 8 + (4 + 11) + rm_X2_read.locals ≤ R.locals) : am_op p l e R s m args below meth c D am_cl0 tc A nL n0 ad0 cc (3, 96) (am_fci (some 2) 3 F_X2_read rm_X2_read.cells rm_X2_read.slots) := am_fci_ok C (am_rn_V C rfl (M_X2_read hl) rfl (am_gd wc_X2_read) (am_tl w_3_132) (am_tl w_3_133) (am_tl w_3_134) (am_tl w_1_5) (by decide +kernel) hR)
set_option maxRecDepth 10000 in
theorem op_L_2_97 (C : am_Cx p l R s m args meth c cc nL (c0 :: lw_good) RL D am_cl0 tc A am_rs0 am_zs0 hs ad0) (hl : l.stackTraces = false) (hR : rm_L_write.frames + 1 ≤ R.frames ∧ 8 + (6 + 11) + rm_L_write.locals ≤ R.locals) : am_op p l e R s m args below meth c D am_cl0 tc A nL n0 ad0 cc (2, 97) (am_fci none 5 F_L_write rm_L_write.cells rm_L_write.slots) := am_fci_ok C (am_rn_SX C (M_L_write hl) rfl (am_gd wc_L_write) (am_tl w_2_154) (am_tl w_2_155) (am_tl w_1_0) (by decide +kernel) hR)
set_option maxRecDepth 10000 in
theorem op_L_3_100 (C : am_Cx p l R s m args meth c cc nL (c0 :: lw_good) RL D am_cl0 tc A am_rs0 am_zs0 hs ad0) (hl : l.stackTraces = false) (hR : rm_X2_write.frames + 1 ≤ R.frames ∧ 8 + (8 + 11) + rm_X2_write.locals ≤ R.locals) : am_op p l e R s m args below meth c D am_cl0 tc A nL n0 ad0 cc (3, 100) (am_fci (some 2) 4 F_X2_write rm_X2_write.cells rm_X2_write.slots) := am_fci_ok C (am_rn_V C rfl (M_X2_write hl) rfl (am_gd wc_X2_write) (am_tl w_3_176) (am_tl w_3_177) (am_tl w_3_178) (am_tl w_1_5) (by decide +kernel) hR)
set_option maxRecDepth 10000 in
theorem op_L_2_101 (C : am_Cx p l R s m args meth c cc nL (c0 :: lw_good) RL D am_cl0 tc A am_rs0 am_zs0 hs ad0) (hl : l.stackTraces = false) (hR : rm_L_sweep.frames + 1 ≤ R.frames ∧ 8 + (4 + 11) + rm_L_sweep.locals ≤ R.locals) : am_op p l e R s m args below meth c D am_cl0 tc A nL n0 ad0 cc (2, 101) (am_fci none 3 F_L_sweep rm_L_sweep.cells rm_L_sweep.slots) := am_fci_ok C (am_rn_SX C (M_L_sweep hl) rfl (am_gd wc_L_sweep) (am_tl w_2_175) (am_tl w_2_176) (am_tl w_1_0) (by decide +kernel) hR)
set_option maxRecDepth 10000 in
theorem op_L_3_103 (C : am_Cx p l R s m args meth c cc nL (c0 :: lw_good) RL D am_cl0 tc A am_rs0 am_zs0 hs ad0) (hl : l.stackTraces = false) (hR : rm_X2_sweep.frames + 1 ≤ R.frames ∧ 8 + (4 + 11) + rm_X2_sweep.locals ≤ R.locals) : am_op p l e R s m args below meth c D am_cl0 tc A nL n0 ad0 cc (3, 103) (am_fci (some 2) 2 F_X2_sweep rm_X2_sweep.cells rm_X2_sweep.slots) := am_fci_ok C (am_rn_V C rfl (M_X2_sweep hl) rfl (am_gd wc_X2_sweep) (am_tl w_3_180) (am_tl w_3_181) (am_tl w_3_182) (am_tl w_1_5) (by decide +kernel) hR)
set_option maxRecDepth 10000 in
theorem op_L_2_104 (C : am_Cx p l R s m args meth c cc nL (c0 :: lw_good) RL D am_cl0 tc A am_rs0 am_zs0 hs ad0) (hl : l.stackTraces = false) (hR : rm_L_swapOut.frames + 1 ≤ R.frames ∧ 8 + (4 + 11) + rm_L_swapOut.locals ≤ R.locals) : am_op p l e R s m args below meth c D am_cl0 tc A nL n0 ad0 cc (2, 104) (am_fci none 3 F_L_swapOut rm_L_swapOut.cells rm_L_swapOut.slots) := am_fci_ok C (am_rn_SX C (M_L_swapOut hl) rfl (am_gd wc_L_swapOut) (am_tl w_2_183) (am_tl w_2_184) (am_tl w_1_0) (by decide +kernel) hR)
set_option maxRecDepth 10000 in
theorem op_L_3_106 (C : am_Cx p l R s m args meth c cc nL (c0 :: lw_good) RL D am_cl0 tc A am_rs0 am_zs0 hs ad0) (hl : l.stackTraces = false) (hR : rm_X2_swapOut.frames + 1 ≤ R.frames ∧ 8 + (5 + 11) + rm_X2_swapOut.locals ≤ R.locals) : am_op p l e R s m args below meth c D am_cl0 tc A nL n0 ad0 cc (3, 106) (am_fci (some 2) 2 F_X2_swapOut rm_X2_swapOut.cells rm_X2_swapOut.slots) := am_fci_ok C (am_rn_V C rfl (M_X2_swapOut hl) rfl (am_gd wc_X2_swapOut) (am_tl w_3_184) (am_tl w_3_185) (am_tl w_3_186) (am_tl w_1_5) (by decide +kernel) hR)
set_option maxRecDepth 10000 in
theorem op_L_2_107 (C : am_Cx p l R s m args meth c cc nL (c0 :: lw_good) RL D am_cl0 tc A am_rs0 am_zs0 hs ad0) (hl : l.stackTraces = false) (hR : rm_L_where.frames + 1 ≤ R.frames ∧ 8 + (5 + 11) + rm_L_where.locals ≤ R.locals) : am_op p l e R s m args below meth c D am_cl0 tc A nL n0 ad0 cc (2, 107) (am_fci none 4 F_L_where rm_L_where.cells rm_L_where.slots) := am_fci_ok C (am_rn_SX C (M_L_where hl) rfl (am_gd wc_L_where) (am_tl w_2_194) (am_tl w_2_195) (am_tl w_1_0) (by decide +kernel) hR)
set_option maxRecDepth 10000 in
theorem op_L_3_109 (C : am_Cx p l R s m args meth c cc nL (c0 :: lw_good) RL D am_cl0 tc A am_rs0 am_zs0 hs ad0) (hl : l.stackTraces = false) (hR : rm_X2_where.frames + 1 ≤ R.frames ∧ 8 + (4 + 11) + rm_X2_where.locals ≤ R.locals) : am_op p l e R s m args below meth c D am_cl0 tc A nL n0 ad0 cc (3, 109) (am_fci (some 2) 3 F_X2_where rm_X2_where.cells rm_X2_where.slots) := am_fci_ok C (am_rn_V C rfl (M_X2_where hl) rfl (am_gd wc_X2_where) (am_tl w_3_188) (am_tl w_3_189) (am_tl w_3_190) (am_tl w_1_5) (by decide +kernel) hR)
set_option maxRecDepth 10000 in
theorem op_L_2_110 (C : am_Cx p l R s m args meth c cc nL (c0 :: lw_good) RL D am_cl0 tc A am_rs0 am_zs0 hs ad0) (hl : l.stackTraces = false) (hR : rm_L_sharers.frames + 1 ≤ R.frames ∧ 8 + (5 + 11) + rm_L_sharers.locals ≤ R.locals) : am_op p l e R s m args below meth c D am_cl0 tc A nL n0 ad0 cc (2, 110) (am_fci none 4 F_L_sharers rm_L_sharers.cells rm_L_sharers.slots) := am_fci_ok C (am_rn_SX C (M_L_sharers hl) rfl (am_gd wc_L_sharers) (am_tl w_2_205) (am_tl w_2_206) (am_tl w_1_0) (by decide +kernel) hR)
set_option maxRecDepth 10000 in
theorem op_L_3_112 (C : am_Cx p l R s m args meth c cc nL (c0 :: lw_good) RL D am_cl0 tc A am_rs0 am_zs0 hs ad0) (hl : l.stackTraces = false) (hR : rm_X2_sharers.frames + 1 ≤ R.frames ∧ 8 + (4 + 11) + rm_X2_sharers.locals ≤ R.locals) : am_op p l e R s m args below meth c D am_cl0 tc A nL n0 ad0 cc (3, 112) (am_fci (some 2) 3 F_X2_sharers rm_X2_sharers.cells rm_X2_sharers.slots) := am_fci_ok C (am_rn_V C rfl (M_X2_sharers hl) rfl (am_gd wc_X2_sharers) (am_tl w_3_196) (am_tl w_3_197) (am_tl w_3_198) (am_tl w_1_5) (by decide +kernel) hR)
set_option maxRecDepth 10000 in
theorem op_L_2_113 (C : am_Cx p l R s m args meth c cc nL (c0 :: lw_good) RL D am_cl0 tc A am_rs0 am_zs0 hs ad0) (hl : l.stackTraces = false) (hR : rm_L_fact.frames + 1 ≤ R.frames ∧ 8 + (5 + 11) + rm_L_fact.locals ≤ R.locals) : am_op p l e R s m args below meth c D am_cl0 tc A nL n0 ad0 cc (2, 113) (am_fci none 4 F_L_fact rm_L_fact.cells rm_L_fact.slots) := am_fci_ok C (am_rn_SX C (M_L_fact hl) rfl (am_gd wc_L_fact) (am_tl w_2_216) (am_tl w_2_217) (am_tl w_1_0) (by decide +kernel) hR)
set_option maxRecDepth 10000 in
theorem op_L_3_115 (C : am_Cx p l R s m args meth c cc nL (c0 :: lw_good) RL D am_cl0 tc A am_rs0 am_zs0 hs ad0) (hl : l.stackTraces = false) (hR : rm_X2_fact.frames + 1 ≤ R.frames ∧ 8 + (3 + 11) + rm_X2_fact.locals ≤ R.locals) : am_op p l e R s m args below meth c D am_cl0 tc A nL n0 ad0 cc (3, 115) (am_fci (some 2) 3 F_X2_fact rm_X2_fact.cells rm_X2_fact.slots) := am_fci_ok C (am_rn_V C rfl (M_X2_fact hl) rfl (am_gd wc_X2_fact) (am_tl w_3_200) (am_tl w_3_201) (am_tl w_3_202) (am_tl w_1_5) (by decide +kernel) hR)
set_option maxRecDepth 10000 in
theorem op_L_2_116 (C : am_Cx p l R s m args meth c cc nL (c0 :: lw_good) RL D am_cl0 tc A am_rs0 am_zs0 hs ad0) (hl : l.stackTraces = false) (hR : rm_L_count.frames + 1 ≤ R.frames ∧ 8 + (4 + 11) + rm_L_count.locals ≤ R.locals) : am_op p l e R s m args below meth c D am_cl0 tc A nL n0 ad0 cc (2, 116) (am_fci none 3 F_L_count rm_L_count.cells rm_L_count.slots) := am_fci_ok C (am_rn_SX C (M_L_count hl) rfl (am_gd wc_L_count) (am_tl w_2_223) (am_tl w_2_224) (am_tl w_1_0) (by decide +kernel) hR)
set_option maxRecDepth 10000 in
theorem op_L_3_118 (C : am_Cx p l R s m args meth c cc nL (c0 :: lw_good) RL D am_cl0 tc A am_rs0 am_zs0 hs ad0) (hl : l.stackTraces = false) (hR : rm_X2_count.frames + 1 ≤ R.frames ∧ 8 + (5 + 11) + rm_X2_count.locals ≤ R.locals) : am_op p l e R s m args below meth c D am_cl0 tc A nL n0 ad0 cc (3, 118) (am_fci (some 2) 2 F_X2_count rm_X2_count.cells rm_X2_count.slots) := am_fci_ok C (am_rn_V C rfl (M_X2_count hl) rfl (am_gd wc_X2_count) (am_tl w_3_204) (am_tl w_3_205) (am_tl w_3_206) (am_tl w_1_5) (by decide +kernel) hR)
def X_L_law (rs : Nat → Option (Nat × (Nat → Int32))) : am_X := [((5, 8), (am_fnew 1 8 [.inl .null, .inl .null, .inl .null, .inl .null, .inl .null, .inl .null, .inl .null, .inl .null])), ((2, 61), (am_fci none 2 (F_L_cell rs) rm_L_cell.cells rm_L_cell.slots)), ((4, 67), (am_fcv (some 1) 3 (am_nx F_X1_init) rm_X1_init.cells rm_X1_init.slots)), ((5, 70), (am_fnew 2 20 [.inl (.int 0), .inl (.int 0), .inl (.int 0), .inl .null, .inl .null, .inl .null, .inl .null, .inl .null, .inl .null, .inl .null, .inl .null, .inl .null, .inl .null, .inl .null, .inl .null, .inl .null, .inl (.int 0), .inl (.int 0), .inl (.int 0), .inl (.int 0)])), ((4, 72), (am_fcv (some 2) 3 (am_nx F_X2_init) rm_X2_init.cells rm_X2_init.slots)), ((8, 2), (am_fna 2)), ((2, 73), (am_fci none 3 F_L_fork rm_L_fork.cells rm_L_fork.slots)), ((3, 76), (am_fci (some 2) 2 F_X2_fork rm_X2_fork.cells rm_X2_fork.slots)), ((3, 77), (am_fci (some 2) 1 F_X2_thrown rm_X2_thrown.cells rm_X2_thrown.slots)), ((2, 81), (am_fci none 4 F_L_exec rm_L_exec.cells rm_L_exec.slots)), ((3, 84), (am_fci (some 2) 3 F_X2_exec rm_X2_exec.cells rm_X2_exec.slots)), ((2, 85), (am_fci none 4 F_L_exit rm_L_exit.cells rm_L_exit.slots)), ((3, 87), (am_fci (some 2) 3 F_X2_exit rm_X2_exit.cells rm_X2_exit.slots)), ((2, 88), (am_fci none 3 F_L_await rm_L_await.cells rm_L_await.slots)), ((3, 90), (am_fci (some 2) 2 F_X2_await rm_X2_await.cells rm_X2_await.slots)), ((2, 91), (am_fci none 4 F_L_grow rm_L_grow.cells rm_L_grow.slots)), ((3, 93), (am_fci (some 2) 3 F_X2_grow rm_X2_grow.cells rm_X2_grow.slots)), ((2, 94), (am_fci none 4 F_L_read rm_L_read.cells rm_L_read.slots)), ((3, 96), (am_fci (some 2) 3 F_X2_read rm_X2_read.cells rm_X2_read.slots)), ((2, 97), (am_fci none 5 F_L_write rm_L_write.cells rm_L_write.slots)), ((3, 100), (am_fci (some 2) 4 F_X2_write rm_X2_write.cells rm_X2_write.slots)), ((2, 101), (am_fci none 3 F_L_sweep rm_L_sweep.cells rm_L_sweep.slots)), ((3, 103), (am_fci (some 2) 2 F_X2_sweep rm_X2_sweep.cells rm_X2_sweep.slots)), ((2, 104), (am_fci none 3 F_L_swapOut rm_L_swapOut.cells rm_L_swapOut.slots)), ((3, 106), (am_fci (some 2) 2 F_X2_swapOut rm_X2_swapOut.cells rm_X2_swapOut.slots)), ((2, 107), (am_fci none 4 F_L_where rm_L_where.cells rm_L_where.slots)), ((3, 109), (am_fci (some 2) 3 F_X2_where rm_X2_where.cells rm_X2_where.slots)), ((2, 110), (am_fci none 4 F_L_sharers rm_L_sharers.cells rm_L_sharers.slots)), ((3, 112), (am_fci (some 2) 3 F_X2_sharers rm_X2_sharers.cells rm_X2_sharers.slots)), ((2, 113), (am_fci none 4 F_L_fact rm_L_fact.cells rm_L_fact.slots)), ((3, 115), (am_fci (some 2) 3 F_X2_fact rm_X2_fact.cells rm_X2_fact.slots)), ((2, 116), (am_fci none 3 F_L_count rm_L_count.cells rm_L_count.slots)), ((3, 118), (am_fci (some 2) 2 F_X2_count rm_X2_count.cells rm_X2_count.slots))]
set_option maxRecDepth 100000 in
theorem okL (hl : l.stackTraces = false) (C : am_Cx p l room_1 s m args meth c code 7 (c0 :: lw_good) RL D am_cl0 tc A rs am_zs0 [] ad0) (C0 : am_Cx p l room_1 s m args meth c code 7 (c0 :: lw_good) RL D am_cl0 tc A am_rs0 am_zs0 [] ad0) : ∀ q ∈ X_L_law rs, am_op p l e room_1 s m args below meth c D am_cl0 tc A 7 n0 ad0 code q.1 q.2 := List.forall_mem_cons.mpr ⟨op_L_5_8 C, List.forall_mem_cons.mpr ⟨op_L_2_61 C hl ⟨by decide, by decide⟩, List.forall_mem_cons.mpr ⟨op_L_4_67 C0 hl ⟨by decide, by decide⟩, List.forall_mem_cons.mpr ⟨op_L_5_70 C, List.forall_mem_cons.mpr ⟨op_L_4_72 C0 hl ⟨by decide, by decide⟩, List.forall_mem_cons.mpr ⟨op_L_8_2 C, List.forall_mem_cons.mpr ⟨op_L_2_73 C0 hl ⟨by decide, by decide⟩, List.forall_mem_cons.mpr ⟨op_L_3_76 C0 hl ⟨by decide, by decide⟩, List.forall_mem_cons.mpr ⟨op_L_3_77 C0 hl ⟨by decide, by decide⟩, List.forall_mem_cons.mpr ⟨op_L_2_81 C0 hl ⟨by decide, by decide⟩, List.forall_mem_cons.mpr ⟨op_L_3_84 C0 hl ⟨by decide, by decide⟩, List.forall_mem_cons.mpr ⟨op_L_2_85 C0 hl ⟨by decide, by decide⟩, List.forall_mem_cons.mpr ⟨op_L_3_87 C0 hl ⟨by decide, by decide⟩, List.forall_mem_cons.mpr ⟨op_L_2_88 C0 hl ⟨by decide, by decide⟩, List.forall_mem_cons.mpr ⟨op_L_3_90 C0 hl ⟨by decide, by decide⟩, List.forall_mem_cons.mpr ⟨op_L_2_91 C0 hl ⟨by decide, by decide⟩, List.forall_mem_cons.mpr ⟨op_L_3_93 C0 hl ⟨by decide, by decide⟩, List.forall_mem_cons.mpr ⟨op_L_2_94 C0 hl ⟨by decide, by decide⟩, List.forall_mem_cons.mpr ⟨op_L_3_96 C0 hl ⟨by decide, by decide⟩, List.forall_mem_cons.mpr ⟨op_L_2_97 C0 hl ⟨by decide, by decide⟩, List.forall_mem_cons.mpr ⟨op_L_3_100 C0 hl ⟨by decide, by decide⟩, List.forall_mem_cons.mpr ⟨op_L_2_101 C0 hl ⟨by decide, by decide⟩, List.forall_mem_cons.mpr ⟨op_L_3_103 C0 hl ⟨by decide, by decide⟩, List.forall_mem_cons.mpr ⟨op_L_2_104 C0 hl ⟨by decide, by decide⟩, List.forall_mem_cons.mpr ⟨op_L_3_106 C0 hl ⟨by decide, by decide⟩, List.forall_mem_cons.mpr ⟨op_L_2_107 C0 hl ⟨by decide, by decide⟩, List.forall_mem_cons.mpr ⟨op_L_3_109 C0 hl ⟨by decide, by decide⟩, List.forall_mem_cons.mpr ⟨op_L_2_110 C0 hl ⟨by decide, by decide⟩, List.forall_mem_cons.mpr ⟨op_L_3_112 C0 hl ⟨by decide, by decide⟩, List.forall_mem_cons.mpr ⟨op_L_2_113 C0 hl ⟨by decide, by decide⟩, List.forall_mem_cons.mpr ⟨op_L_3_115 C0 hl ⟨by decide, by decide⟩, List.forall_mem_cons.mpr ⟨op_L_2_116 C0 hl ⟨by decide, by decide⟩, List.forall_mem_cons.mpr ⟨op_L_3_118 C0 hl ⟨by decide, by decide⟩, fun q hq => nomatch hq⟩⟩⟩⟩⟩⟩⟩⟩⟩⟩⟩⟩⟩⟩⟩⟩⟩⟩⟩⟩⟩⟩⟩⟩⟩⟩⟩⟩⟩⟩⟩⟩⟩
end AMP
end
section
/-! the law's code, checked in pieces -/
def am_dk (cc : ByteArray) (T : am_I) : Bool := T.all (fun x => decide (decode cc x.1 = .ok x.2))
def am_chn : am_I → Bool
  | [] => true
  | x :: r => (match r with
    | [] => true
    | y :: _ => y.1 == x.1 + x.2.2) && am_chn r
theorem am_chk_of {cc : ByteArray} : ∀ {T : am_I}, am_dk cc T = true → am_chn T = true → am_chk cc T = true
  | [], _, _ => rfl
  | x :: r, h1, h2 => by
    simp only [am_dk, List.all_cons, Bool.and_eq_true] at h1
    simp only [am_chn, Bool.and_eq_true] at h2
    simp only [am_chk, Bool.and_eq_true]
    exact ⟨h1.1, h2.1, am_chk_of (T := r) h1.2 h2.2⟩
theorem am_dk_app {cc : ByteArray} {a b : am_I} (ha : am_dk cc a = true) (hb : am_dk cc b = true) : am_dk cc (a ++ b) = true := by
  simp only [am_dk, List.all_append, Bool.and_eq_true]
  exact ⟨ha, hb⟩
def TL_0 : am_I := [(0, .new 8, 3), (3, .dup, 1), (4, .aload_n 0, 1), (5, .iconst 0, 1), (6, .invokestatic 61, 3), (9, .aload_n 0, 1), (10, .iconst 1, 1), (11, .invokestatic 61, 3), (14, .invokespecial 67, 3), (17, .astore_n 1, 1), (18, .new 70, 3), (21, .dup, 1), (22, .aload_n 0, 1), (23, .iconst 0, 1), (24, .invokestatic 61, 3), (27, .aload_n 0, 1), (28, .iconst 1, 1), (29, .invokestatic 61, 3), (32, .invokespecial 72, 3), (35, .astore_n 2, 1), (36, .iconst 1, 1), (37, .newarray .long, 2), (39, .astore_n 3, 1), (40, .iconst 2, 1), (41, .istore 4, 2), (43, .iload 4, 2), (45, .aload_n 0, 1), (46, .arraylength, 1), (47, .iconst 4, 1), (48, .isub, 1)]
set_option maxRecDepth 100000 in
theorem dkL_0 : am_dk code TL_0 = true := by decide +kernel
def TL_1 : am_I := [(49, .if_icmp .gt 917, 3), (52, .aload_n 0, 1), (53, .iload 4, 2), (55, .iaload, 1), (56, .bipush 15, 2), (58, .iand, 1), (59, .tableswitch 901 0 12 #[65, 121, 189, 257, 313, 381, 449, 529, 585, 641, 709, 777, 845], 65), (124, .aload_n 1, 1), (125, .aload_n 0, 1), (126, .iload 4, 2), (128, .iconst 1, 1), (129, .iadd, 1), (130, .iaload, 1), (131, .aload_n 3, 1), (132, .invokestatic 73, 3), (135, .istore 5, 2), (137, .aload_n 2, 1), (138, .aload_n 0, 1), (139, .iload 4, 2), (141, .iconst 1, 1), (142, .iadd, 1), (143, .iaload, 1), (144, .invokevirtual 76, 3), (147, .istore 6, 2), (149, .aload_n 2, 1), (150, .invokevirtual 77, 3), (153, .iload 5, 2), (155, .if_icmp .eq 5, 3), (158, .iconst 0, 1), (159, .ireturn, 1)]
set_option maxRecDepth 100000 in
theorem dkL_1 : am_dk code TL_1 = true := by decide +kernel
def TL_2 : am_I := [(160, .iload 5, 2), (162, .ifCond .ne 15, 3), (165, .aload_n 3, 1), (166, .iconst 0, 1), (167, .laload, 1), (168, .iload 6, 2), (170, .i2l, 1), (171, .lcmp, 1), (172, .ifCond .eq 5, 3), (175, .iconst 0, 1), (176, .ireturn, 1), (177, .goto 783, 3), (180, .aload_n 1, 1), (181, .aload_n 0, 1), (182, .iload 4, 2), (184, .iconst 1, 1), (185, .iadd, 1), (186, .iaload, 1), (187, .aload_n 0, 1), (188, .iload 4, 2), (190, .iconst 2, 1), (191, .iadd, 1), (192, .iaload, 1), (193, .aload_n 3, 1), (194, .invokestatic 81, 3), (197, .istore 5, 2), (199, .aload_n 2, 1), (200, .aload_n 0, 1), (201, .iload 4, 2), (203, .iconst 1, 1)]
set_option maxRecDepth 100000 in
theorem dkL_2 : am_dk code TL_2 = true := by decide +kernel
def TL_3 : am_I := [(204, .iadd, 1), (205, .iaload, 1), (206, .aload_n 0, 1), (207, .iload 4, 2), (209, .iconst 2, 1), (210, .iadd, 1), (211, .iaload, 1), (212, .invokevirtual 84, 3), (215, .istore 6, 2), (217, .aload_n 2, 1), (218, .invokevirtual 77, 3), (221, .iload 5, 2), (223, .if_icmp .eq 5, 3), (226, .iconst 0, 1), (227, .ireturn, 1), (228, .iload 5, 2), (230, .ifCond .ne 15, 3), (233, .aload_n 3, 1), (234, .iconst 0, 1), (235, .laload, 1), (236, .iload 6, 2), (238, .i2l, 1), (239, .lcmp, 1), (240, .ifCond .eq 5, 3), (243, .iconst 0, 1), (244, .ireturn, 1), (245, .goto 715, 3), (248, .aload_n 1, 1), (249, .aload_n 0, 1), (250, .iload 4, 2)]
set_option maxRecDepth 100000 in
theorem dkL_3 : am_dk code TL_3 = true := by decide +kernel
def TL_4 : am_I := [(252, .iconst 1, 1), (253, .iadd, 1), (254, .iaload, 1), (255, .aload_n 0, 1), (256, .iload 4, 2), (258, .iconst 2, 1), (259, .iadd, 1), (260, .iaload, 1), (261, .aload_n 3, 1), (262, .invokestatic 85, 3), (265, .istore 5, 2), (267, .aload_n 2, 1), (268, .aload_n 0, 1), (269, .iload 4, 2), (271, .iconst 1, 1), (272, .iadd, 1), (273, .iaload, 1), (274, .aload_n 0, 1), (275, .iload 4, 2), (277, .iconst 2, 1), (278, .iadd, 1), (279, .iaload, 1), (280, .invokevirtual 87, 3), (283, .istore 6, 2), (285, .aload_n 2, 1), (286, .invokevirtual 77, 3), (289, .iload 5, 2), (291, .if_icmp .eq 5, 3), (294, .iconst 0, 1), (295, .ireturn, 1)]
set_option maxRecDepth 100000 in
theorem dkL_4 : am_dk code TL_4 = true := by decide +kernel
def TL_5 : am_I := [(296, .iload 5, 2), (298, .ifCond .ne 15, 3), (301, .aload_n 3, 1), (302, .iconst 0, 1), (303, .laload, 1), (304, .iload 6, 2), (306, .i2l, 1), (307, .lcmp, 1), (308, .ifCond .eq 5, 3), (311, .iconst 0, 1), (312, .ireturn, 1), (313, .goto 647, 3), (316, .aload_n 1, 1), (317, .aload_n 0, 1), (318, .iload 4, 2), (320, .iconst 1, 1), (321, .iadd, 1), (322, .iaload, 1), (323, .aload_n 3, 1), (324, .invokestatic 88, 3), (327, .istore 5, 2), (329, .aload_n 2, 1), (330, .aload_n 0, 1), (331, .iload 4, 2), (333, .iconst 1, 1), (334, .iadd, 1), (335, .iaload, 1), (336, .invokevirtual 90, 3), (339, .istore 6, 2), (341, .aload_n 2, 1)]
set_option maxRecDepth 100000 in
theorem dkL_5 : am_dk code TL_5 = true := by decide +kernel
def TL_6 : am_I := [(342, .invokevirtual 77, 3), (345, .iload 5, 2), (347, .if_icmp .eq 5, 3), (350, .iconst 0, 1), (351, .ireturn, 1), (352, .iload 5, 2), (354, .ifCond .ne 15, 3), (357, .aload_n 3, 1), (358, .iconst 0, 1), (359, .laload, 1), (360, .iload 6, 2), (362, .i2l, 1), (363, .lcmp, 1), (364, .ifCond .eq 5, 3), (367, .iconst 0, 1), (368, .ireturn, 1), (369, .goto 591, 3), (372, .aload_n 1, 1), (373, .aload_n 0, 1), (374, .iload 4, 2), (376, .iconst 1, 1), (377, .iadd, 1), (378, .iaload, 1), (379, .aload_n 0, 1), (380, .iload 4, 2), (382, .iconst 2, 1), (383, .iadd, 1), (384, .iaload, 1), (385, .aload_n 3, 1), (386, .invokestatic 91, 3)]
set_option maxRecDepth 100000 in
theorem dkL_6 : am_dk code TL_6 = true := by decide +kernel
def TL_7 : am_I := [(389, .istore 5, 2), (391, .aload_n 2, 1), (392, .aload_n 0, 1), (393, .iload 4, 2), (395, .iconst 1, 1), (396, .iadd, 1), (397, .iaload, 1), (398, .aload_n 0, 1), (399, .iload 4, 2), (401, .iconst 2, 1), (402, .iadd, 1), (403, .iaload, 1), (404, .invokevirtual 93, 3), (407, .istore 6, 2), (409, .aload_n 2, 1), (410, .invokevirtual 77, 3), (413, .iload 5, 2), (415, .if_icmp .eq 5, 3), (418, .iconst 0, 1), (419, .ireturn, 1), (420, .iload 5, 2), (422, .ifCond .ne 15, 3), (425, .aload_n 3, 1), (426, .iconst 0, 1), (427, .laload, 1), (428, .iload 6, 2), (430, .i2l, 1), (431, .lcmp, 1), (432, .ifCond .eq 5, 3), (435, .iconst 0, 1)]
set_option maxRecDepth 100000 in
theorem dkL_7 : am_dk code TL_7 = true := by decide +kernel
def TL_8 : am_I := [(436, .ireturn, 1), (437, .goto 523, 3), (440, .aload_n 1, 1), (441, .aload_n 0, 1), (442, .iload 4, 2), (444, .iconst 1, 1), (445, .iadd, 1), (446, .iaload, 1), (447, .aload_n 0, 1), (448, .iload 4, 2), (450, .iconst 2, 1), (451, .iadd, 1), (452, .iaload, 1), (453, .aload_n 3, 1), (454, .invokestatic 94, 3), (457, .istore 5, 2), (459, .aload_n 2, 1), (460, .aload_n 0, 1), (461, .iload 4, 2), (463, .iconst 1, 1), (464, .iadd, 1), (465, .iaload, 1), (466, .aload_n 0, 1), (467, .iload 4, 2), (469, .iconst 2, 1), (470, .iadd, 1), (471, .iaload, 1), (472, .invokevirtual 96, 3), (475, .istore 6, 2), (477, .aload_n 2, 1)]
set_option maxRecDepth 100000 in
theorem dkL_8 : am_dk code TL_8 = true := by decide +kernel
def TL_9 : am_I := [(478, .invokevirtual 77, 3), (481, .iload 5, 2), (483, .if_icmp .eq 5, 3), (486, .iconst 0, 1), (487, .ireturn, 1), (488, .iload 5, 2), (490, .ifCond .ne 15, 3), (493, .aload_n 3, 1), (494, .iconst 0, 1), (495, .laload, 1), (496, .iload 6, 2), (498, .i2l, 1), (499, .lcmp, 1), (500, .ifCond .eq 5, 3), (503, .iconst 0, 1), (504, .ireturn, 1), (505, .goto 455, 3), (508, .aload_n 1, 1), (509, .aload_n 0, 1), (510, .iload 4, 2), (512, .iconst 1, 1), (513, .iadd, 1), (514, .iaload, 1), (515, .aload_n 0, 1), (516, .iload 4, 2), (518, .iconst 2, 1), (519, .iadd, 1), (520, .iaload, 1), (521, .aload_n 0, 1), (522, .iload 4, 2)]
set_option maxRecDepth 100000 in
theorem dkL_9 : am_dk code TL_9 = true := by decide +kernel
def TL_10 : am_I := [(524, .iconst 3, 1), (525, .iadd, 1), (526, .iaload, 1), (527, .aload_n 3, 1), (528, .invokestatic 97, 3), (531, .istore 5, 2), (533, .aload_n 2, 1), (534, .aload_n 0, 1), (535, .iload 4, 2), (537, .iconst 1, 1), (538, .iadd, 1), (539, .iaload, 1), (540, .aload_n 0, 1), (541, .iload 4, 2), (543, .iconst 2, 1), (544, .iadd, 1), (545, .iaload, 1), (546, .aload_n 0, 1), (547, .iload 4, 2), (549, .iconst 3, 1), (550, .iadd, 1), (551, .iaload, 1), (552, .invokevirtual 100, 3), (555, .istore 6, 2), (557, .aload_n 2, 1), (558, .invokevirtual 77, 3), (561, .iload 5, 2), (563, .if_icmp .eq 5, 3), (566, .iconst 0, 1), (567, .ireturn, 1)]
set_option maxRecDepth 100000 in
theorem dkL_10 : am_dk code TL_10 = true := by decide +kernel
def TL_11 : am_I := [(568, .iload 5, 2), (570, .ifCond .ne 15, 3), (573, .aload_n 3, 1), (574, .iconst 0, 1), (575, .laload, 1), (576, .iload 6, 2), (578, .i2l, 1), (579, .lcmp, 1), (580, .ifCond .eq 5, 3), (583, .iconst 0, 1), (584, .ireturn, 1), (585, .goto 375, 3), (588, .aload_n 1, 1), (589, .aload_n 0, 1), (590, .iload 4, 2), (592, .iconst 1, 1), (593, .iadd, 1), (594, .iaload, 1), (595, .aload_n 3, 1), (596, .invokestatic 101, 3), (599, .istore 5, 2), (601, .aload_n 2, 1), (602, .aload_n 0, 1), (603, .iload 4, 2), (605, .iconst 1, 1), (606, .iadd, 1), (607, .iaload, 1), (608, .invokevirtual 103, 3), (611, .istore 6, 2), (613, .aload_n 2, 1)]
set_option maxRecDepth 100000 in
theorem dkL_11 : am_dk code TL_11 = true := by decide +kernel
def TL_12 : am_I := [(614, .invokevirtual 77, 3), (617, .iload 5, 2), (619, .if_icmp .eq 5, 3), (622, .iconst 0, 1), (623, .ireturn, 1), (624, .iload 5, 2), (626, .ifCond .ne 15, 3), (629, .aload_n 3, 1), (630, .iconst 0, 1), (631, .laload, 1), (632, .iload 6, 2), (634, .i2l, 1), (635, .lcmp, 1), (636, .ifCond .eq 5, 3), (639, .iconst 0, 1), (640, .ireturn, 1), (641, .goto 319, 3), (644, .aload_n 1, 1), (645, .aload_n 0, 1), (646, .iload 4, 2), (648, .iconst 1, 1), (649, .iadd, 1), (650, .iaload, 1), (651, .aload_n 3, 1), (652, .invokestatic 104, 3), (655, .istore 5, 2), (657, .aload_n 2, 1), (658, .aload_n 0, 1), (659, .iload 4, 2), (661, .iconst 1, 1)]
set_option maxRecDepth 100000 in
theorem dkL_12 : am_dk code TL_12 = true := by decide +kernel
def TL_13 : am_I := [(662, .iadd, 1), (663, .iaload, 1), (664, .invokevirtual 106, 3), (667, .istore 6, 2), (669, .aload_n 2, 1), (670, .invokevirtual 77, 3), (673, .iload 5, 2), (675, .if_icmp .eq 5, 3), (678, .iconst 0, 1), (679, .ireturn, 1), (680, .iload 5, 2), (682, .ifCond .ne 15, 3), (685, .aload_n 3, 1), (686, .iconst 0, 1), (687, .laload, 1), (688, .iload 6, 2), (690, .i2l, 1), (691, .lcmp, 1), (692, .ifCond .eq 5, 3), (695, .iconst 0, 1), (696, .ireturn, 1), (697, .goto 263, 3), (700, .aload_n 1, 1), (701, .aload_n 0, 1), (702, .iload 4, 2), (704, .iconst 1, 1), (705, .iadd, 1), (706, .iaload, 1), (707, .aload_n 0, 1), (708, .iload 4, 2)]
set_option maxRecDepth 100000 in
theorem dkL_13 : am_dk code TL_13 = true := by decide +kernel
def TL_14 : am_I := [(710, .iconst 2, 1), (711, .iadd, 1), (712, .iaload, 1), (713, .aload_n 3, 1), (714, .invokestatic 107, 3), (717, .istore 5, 2), (719, .aload_n 2, 1), (720, .aload_n 0, 1), (721, .iload 4, 2), (723, .iconst 1, 1), (724, .iadd, 1), (725, .iaload, 1), (726, .aload_n 0, 1), (727, .iload 4, 2), (729, .iconst 2, 1), (730, .iadd, 1), (731, .iaload, 1), (732, .invokevirtual 109, 3), (735, .istore 6, 2), (737, .aload_n 2, 1), (738, .invokevirtual 77, 3), (741, .iload 5, 2), (743, .if_icmp .eq 5, 3), (746, .iconst 0, 1), (747, .ireturn, 1), (748, .iload 5, 2), (750, .ifCond .ne 15, 3), (753, .aload_n 3, 1), (754, .iconst 0, 1), (755, .laload, 1)]
set_option maxRecDepth 100000 in
theorem dkL_14 : am_dk code TL_14 = true := by decide +kernel
def TL_15 : am_I := [(756, .iload 6, 2), (758, .i2l, 1), (759, .lcmp, 1), (760, .ifCond .eq 5, 3), (763, .iconst 0, 1), (764, .ireturn, 1), (765, .goto 195, 3), (768, .aload_n 1, 1), (769, .aload_n 0, 1), (770, .iload 4, 2), (772, .iconst 1, 1), (773, .iadd, 1), (774, .iaload, 1), (775, .aload_n 0, 1), (776, .iload 4, 2), (778, .iconst 2, 1), (779, .iadd, 1), (780, .iaload, 1), (781, .aload_n 3, 1), (782, .invokestatic 110, 3), (785, .istore 5, 2), (787, .aload_n 2, 1), (788, .aload_n 0, 1), (789, .iload 4, 2), (791, .iconst 1, 1), (792, .iadd, 1), (793, .iaload, 1), (794, .aload_n 0, 1), (795, .iload 4, 2), (797, .iconst 2, 1)]
set_option maxRecDepth 100000 in
theorem dkL_15 : am_dk code TL_15 = true := by decide +kernel
def TL_16 : am_I := [(798, .iadd, 1), (799, .iaload, 1), (800, .invokevirtual 112, 3), (803, .istore 6, 2), (805, .aload_n 2, 1), (806, .invokevirtual 77, 3), (809, .iload 5, 2), (811, .if_icmp .eq 5, 3), (814, .iconst 0, 1), (815, .ireturn, 1), (816, .iload 5, 2), (818, .ifCond .ne 15, 3), (821, .aload_n 3, 1), (822, .iconst 0, 1), (823, .laload, 1), (824, .iload 6, 2), (826, .i2l, 1), (827, .lcmp, 1), (828, .ifCond .eq 5, 3), (831, .iconst 0, 1), (832, .ireturn, 1), (833, .goto 127, 3), (836, .aload_n 1, 1), (837, .aload_n 0, 1), (838, .iload 4, 2), (840, .iconst 1, 1), (841, .iadd, 1), (842, .iaload, 1), (843, .aload_n 0, 1), (844, .iload 4, 2)]
set_option maxRecDepth 100000 in
theorem dkL_16 : am_dk code TL_16 = true := by decide +kernel
def TL_17 : am_I := [(846, .iconst 2, 1), (847, .iadd, 1), (848, .iaload, 1), (849, .aload_n 3, 1), (850, .invokestatic 113, 3), (853, .istore 5, 2), (855, .aload_n 2, 1), (856, .aload_n 0, 1), (857, .iload 4, 2), (859, .iconst 1, 1), (860, .iadd, 1), (861, .iaload, 1), (862, .aload_n 0, 1), (863, .iload 4, 2), (865, .iconst 2, 1), (866, .iadd, 1), (867, .iaload, 1), (868, .invokevirtual 115, 3), (871, .istore 6, 2), (873, .aload_n 2, 1), (874, .invokevirtual 77, 3), (877, .iload 5, 2), (879, .if_icmp .eq 5, 3), (882, .iconst 0, 1), (883, .ireturn, 1), (884, .iload 5, 2), (886, .ifCond .ne 15, 3), (889, .aload_n 3, 1), (890, .iconst 0, 1), (891, .laload, 1)]
set_option maxRecDepth 100000 in
theorem dkL_17 : am_dk code TL_17 = true := by decide +kernel
def TL_18 : am_I := [(892, .iload 6, 2), (894, .i2l, 1), (895, .lcmp, 1), (896, .ifCond .eq 5, 3), (899, .iconst 0, 1), (900, .ireturn, 1), (901, .goto 59, 3), (904, .aload_n 1, 1), (905, .aload_n 0, 1), (906, .iload 4, 2), (908, .iconst 1, 1), (909, .iadd, 1), (910, .iaload, 1), (911, .aload_n 3, 1), (912, .invokestatic 116, 3), (915, .istore 5, 2), (917, .aload_n 2, 1), (918, .aload_n 0, 1), (919, .iload 4, 2), (921, .iconst 1, 1), (922, .iadd, 1), (923, .iaload, 1), (924, .invokevirtual 118, 3), (927, .istore 6, 2), (929, .aload_n 2, 1), (930, .invokevirtual 77, 3), (933, .iload 5, 2), (935, .if_icmp .eq 5, 3), (938, .iconst 0, 1), (939, .ireturn, 1)]
set_option maxRecDepth 100000 in
theorem dkL_18 : am_dk code TL_18 = true := by decide +kernel
def TL_19 : am_I := [(940, .iload 5, 2), (942, .ifCond .ne 15, 3), (945, .aload_n 3, 1), (946, .iconst 0, 1), (947, .laload, 1), (948, .iload 6, 2), (950, .i2l, 1), (951, .lcmp, 1), (952, .ifCond .eq 5, 3), (955, .iconst 0, 1), (956, .ireturn, 1), (957, .goto 3, 3), (960, .iinc 4 4, 3), (963, .goto (-920), 3), (966, .iconst 1, 1), (967, .ireturn, 1)]
set_option maxRecDepth 100000 in
theorem dkL_19 : am_dk code TL_19 = true := by decide +kernel
set_option maxRecDepth 100000 in
theorem TL_eq : T_L_law = TL_0 ++ (TL_1 ++ (TL_2 ++ (TL_3 ++ (TL_4 ++ (TL_5 ++ (TL_6 ++ (TL_7 ++ (TL_8 ++ (TL_9 ++ (TL_10 ++ (TL_11 ++ (TL_12 ++ (TL_13 ++ (TL_14 ++ (TL_15 ++ (TL_16 ++ (TL_17 ++ (TL_18 ++ (TL_19))))))))))))))))))) := by rfl
set_option maxRecDepth 100000 in
theorem chkL : am_chk code T_L_law = true := am_chk_of (by rw [TL_eq]; exact am_dk_app dkL_0 (am_dk_app dkL_1 (am_dk_app dkL_2 (am_dk_app dkL_3 (am_dk_app dkL_4 (am_dk_app dkL_5 (am_dk_app dkL_6 (am_dk_app dkL_7 (am_dk_app dkL_8 (am_dk_app dkL_9 (am_dk_app dkL_10 (am_dk_app dkL_11 (am_dk_app dkL_12 (am_dk_app dkL_13 (am_dk_app dkL_14 (am_dk_app dkL_15 (am_dk_app dkL_16 (am_dk_app dkL_17 (am_dk_app dkL_18 (dkL_19)))))))))))))))))))) (by decide +kernel)
end
section
/-! from the law's run to the claim -/
set_option maxRecDepth 20000 in
theorem z_1_24 : (Jvm.Cond.arrayOver (Jvm.ClassFile.FieldType.array Jvm.ClassFile.FieldType.int)) ∈ lw_tbl := List.mem_append_right _ (List.mem_append_left _ (List.mem_of_getElem? (i := 24) rfl))
set_option maxRecDepth 20000 in
theorem z_1_50 : (Jvm.Cond.fieldLinkNest "PagingKernel" (144 : Nat) "PagingKernel$Memory" "hand" "I" "PagingKernel") ∈ lw_tbl := List.mem_append_right _ (List.mem_append_left _ (List.mem_of_getElem? (i := 50) rfl))
set_option maxRecDepth 20000 in
theorem z_1_52 : (Jvm.Cond.fieldLinkNest "PagingKernel" (137 : Nat) "PagingKernel$Memory" "fills" "I" "PagingKernel") ∈ lw_tbl := List.mem_append_right _ (List.mem_append_left _ (List.mem_of_getElem? (i := 52) rfl))
set_option maxRecDepth 20000 in
theorem z_1_54 : (Jvm.Cond.fieldLinkNest "PagingKernel" (141 : Nat) "PagingKernel$Memory" "copies" "I" "PagingKernel") ∈ lw_tbl := List.mem_append_right _ (List.mem_append_left _ (List.mem_of_getElem? (i := 54) rfl))
set_option maxRecDepth 20000 in
theorem z_1_56 : (Jvm.Cond.fieldLinkNest "PagingKernel" (147 : Nat) "PagingKernel$Memory" "sentOut" "I" "PagingKernel") ∈ lw_tbl := List.mem_append_right _ (List.mem_append_left _ (List.mem_of_getElem? (i := 56) rfl))
set_option maxRecDepth 20000 in
theorem z_1_109 : (Jvm.Cond.laysStatic "PagingKernel" "DATA_AT_START" "[I") ∈ lw_tbl := List.mem_append_right _ (List.mem_append_left _ (List.mem_of_getElem? (i := 109) rfl))
set_option maxRecDepth 20000 in
theorem z_1_164 : (Jvm.Cond.castable "java/lang/IllegalArgumentException" "java/lang/IllegalArgumentException") ∈ lw_tbl := List.mem_append_right _ (List.mem_append_left _ (List.mem_of_getElem? (i := 164) rfl))
set_option maxRecDepth 20000 in
theorem z_1_165 : (Jvm.Cond.declares ({ cls := "java/lang/RuntimeException", name := "<init>", desc := "()V" } : Jvm.MethodName)) ∈ lw_tbl := List.mem_append_right _ (List.mem_append_left _ (List.mem_of_getElem? (i := 165) rfl))
set_option maxRecDepth 20000 in
theorem z_1_166 : (Jvm.Cond.declares ({ cls := "java/lang/RuntimeException", name := "<init>", desc := "(Ljava/lang/String;)V" } : Jvm.MethodName)) ∈ lw_tbl := List.mem_append_right _ (List.mem_append_left _ (List.mem_of_getElem? (i := 166) rfl))
set_option maxRecDepth 20000 in
theorem z_1_167 : (Jvm.Cond.declares ({ cls := "java/lang/Exception", name := "<init>", desc := "()V" } : Jvm.MethodName)) ∈ lw_tbl := List.mem_append_right _ (List.mem_append_left _ (List.mem_of_getElem? (i := 167) rfl))
set_option maxRecDepth 20000 in
theorem z_1_168 : (Jvm.Cond.declares ({ cls := "java/lang/Exception", name := "<init>", desc := "(Ljava/lang/String;)V" } : Jvm.MethodName)) ∈ lw_tbl := List.mem_append_right _ (List.mem_append_left _ (List.mem_of_getElem? (i := 168) rfl))
set_option maxRecDepth 20000 in
theorem z_1_169 : (Jvm.Cond.declares ({ cls := "java/lang/Throwable", name := "<init>", desc := "()V" } : Jvm.MethodName)) ∈ lw_tbl := List.mem_append_right _ (List.mem_append_left _ (List.mem_of_getElem? (i := 169) rfl))
set_option maxRecDepth 20000 in
theorem z_1_170 : (Jvm.Cond.declares ({ cls := "java/lang/Throwable", name := "<init>", desc := "(Ljava/lang/String;)V" } : Jvm.MethodName)) ∈ lw_tbl := List.mem_append_right _ (List.mem_append_left _ (List.mem_of_getElem? (i := 170) rfl))
set_option maxRecDepth 20000 in
theorem z_1_189 : (Jvm.Cond.laysStatic "java/lang/Throwable" "UNASSIGNED_STACK" "[Ljava/lang/StackTraceElement;") ∈ lw_tbl := List.mem_append_right _ (List.mem_append_left _ (List.mem_of_getElem? (i := 189) rfl))
set_option maxRecDepth 20000 in
theorem z_1_191 : (Jvm.Cond.laysStatic "java/lang/Throwable" "SUPPRESSED_SENTINEL" "Ljava/util/List;") ∈ lw_tbl := List.mem_append_right _ (List.mem_append_left _ (List.mem_of_getElem? (i := 191) rfl))
set_option maxRecDepth 20000 in
theorem z_1_233 : (Jvm.Cond.castable "java/util/NoSuchElementException" "java/util/NoSuchElementException") ∈ lw_tbl := List.mem_append_right _ (List.mem_append_left _ (List.mem_of_getElem? (i := 233) rfl))
set_option maxRecDepth 20000 in
theorem z_2_12 : (Jvm.Cond.castable "java/lang/UnsupportedOperationException" "java/lang/UnsupportedOperationException") ∈ lw_tbl := List.mem_append_right _ (List.mem_append_right _ (List.mem_append_left _ (List.mem_of_getElem? (i := 12) rfl)))
set_option maxRecDepth 20000 in
theorem z_2_65 : (Jvm.Cond.castable "java/lang/IllegalStateException" "java/lang/IllegalStateException") ∈ lw_tbl := List.mem_append_right _ (List.mem_append_right _ (List.mem_append_left _ (List.mem_of_getElem? (i := 65) rfl)))
set_option maxRecDepth 20000 in
theorem z_2_107 : (Jvm.Cond.castable "java/lang/IndexOutOfBoundsException" "java/lang/IndexOutOfBoundsException") ∈ lw_tbl := List.mem_append_right _ (List.mem_append_right _ (List.mem_append_left _ (List.mem_of_getElem? (i := 107) rfl)))
def R_law : String := "PagingKernelLaw"
def lw_P (b : Addr) (xs : List Int32) (args : Array Value) (s : State) : Prop := args = #[.ref b] ∧ s.IntsAt b xs ∧ xs.length ≤ 2050 ∧ (Jvm.Cond.and given_1 narrow_1).before args s = true
def lw_Q (_ : Array Value) (s : State) (o : Outcome) (t : State) : Prop := o = .returned (some (.int 1)) ∧ Framed s o t [] 616043 7247942
def lw_Z (below : List Frame) (a : Array Value) (s : State) : State → Prop := fun t => ∃ o, t.status = .running ∧ Ended t below o ∧ lw_Q a s o t
def lw_At (p : Program) (s : State) (m : MethodId) (meth : Method) (c : Code) (b L : Nat) (xs : Nat → Int32) : Prop :=
  p.tables.exec = Jvm.exec ∧ c.code = code ∧ meth.sig.returnType = ret ∧ c.maxLocals = 7 ∧ s.vm.findClass R_law = some m.cls ∧ (∀ w ∈ lw_tbl, w.before #[Value.ref b] s = true) ∧ va_X b L xs s s.heap ∧ b < s.heap.size ∧ meth.locks = false ∧ (Jvm.Cond.and given_1 narrow_1).before #[Value.ref b] s = true ∧ c.exceptionTable.toList = []
/-- the constant arrays and the script -/
def am_rsL (L : Nat) (xs : Nat → Int32) : Nat → Option (Nat × (Nat → Int32)) := fun j => match j with
  | 0 => some (3, fun i => if i = 0 then 1 else if i = 1 then 2 else 4)
  | 1 => some (L, xs)
  | _ => none
/-- the law's run on a script -/
def F_law (L : Nat) (xs : Nat → Int32) : Option am_O := am_lp T_L_law (X_L_law (am_rsL L xs)) 7 (some .boolean) (am_rsL L xs) [] [(43, [0, 1, 2, 3, 4])] 1000 0 [(0, .inl (.retAddr 1))] [] [] (616043, 7247942)
theorem am_rc {args : Array Value} {s : State} {t : FieldType} (h : (Cond.arrayClass t).before args s = true) (ho : ∀ C, t ≠ .object C) : ∃ c : ClassId, ArrOfT s c t ∧ va_RA s c t := by
  obtain ⟨c, k, comp, h1, h2, h3⟩ := Cond.arrayClass_spec h
  refine ⟨c, fun N z => ⟨(fun q hq => by cases hq), k, h2, comp, h3⟩, ?_⟩
  cases t <;> first | exact h1 | exact absurd rfl (ho _)
theorem am_rcA {args : Array Value} {s : State} {t : FieldType} (h : (Cond.arrayOver (.array t)).before args s = true) : ∃ c : ClassId, ArrOfT s c (.array t) ∧ va_RA s c (.array t) := by
  obtain ⟨comp, c, k, hc, hi, hk, hkind, hn⟩ := arrayOverA_spec h
  exact ⟨c, fun N z => ⟨(fun q hq => by cases hq), k, hk, comp, hkind⟩, hn⟩
set_option maxRecDepth 100000 in
set_option maxHeartbeats 4000000 in
theorem am_ncs {args : Array Value} {s : State} (hfl : ∀ w ∈ flatC (Jvm.Cond.and given_1 narrow_1), w.before args s = true) : ∀ x y, x < 5 → y < 5 → x ≠ y → va_Nc (am_xn x) (am_xn y) s := by
  intro x y hx hy hn
  match x, y, hx, hy, hn with
    | 0, 0, _, _, hn => exact absurd rfl hn
    | 0, 1, _, _, hn => exact va_Nc.of (hfl (.not (.castable "java/lang/IllegalArgumentException" "java/util/NoSuchElementException")) (by decide +kernel))
    | 0, 2, _, _, hn => exact va_Nc.of (hfl (.not (.castable "java/lang/IllegalArgumentException" "java/lang/UnsupportedOperationException")) (by decide +kernel))
    | 0, 3, _, _, hn => exact va_Nc.of (hfl (.not (.castable "java/lang/IllegalArgumentException" "java/lang/IllegalStateException")) (by decide +kernel))
    | 0, 4, _, _, hn => exact va_Nc.of (hfl (.not (.castable "java/lang/IllegalArgumentException" "java/lang/IndexOutOfBoundsException")) (by decide +kernel))
    | 0, y + 5, _, hy, _ => exact absurd hy (by omega)
    | 1, 0, _, _, hn => exact va_Nc.of (hfl (.not (.castable "java/util/NoSuchElementException" "java/lang/IllegalArgumentException")) (by decide +kernel))
    | 1, 1, _, _, hn => exact absurd rfl hn
    | 1, 2, _, _, hn => exact va_Nc.of (hfl (.not (.castable "java/util/NoSuchElementException" "java/lang/UnsupportedOperationException")) (by decide +kernel))
    | 1, 3, _, _, hn => exact va_Nc.of (hfl (.not (.castable "java/util/NoSuchElementException" "java/lang/IllegalStateException")) (by decide +kernel))
    | 1, 4, _, _, hn => exact va_Nc.of (hfl (.not (.castable "java/util/NoSuchElementException" "java/lang/IndexOutOfBoundsException")) (by decide +kernel))
    | 1, y + 5, _, hy, _ => exact absurd hy (by omega)
    | 2, 0, _, _, hn => exact va_Nc.of (hfl (.not (.castable "java/lang/UnsupportedOperationException" "java/lang/IllegalArgumentException")) (by decide +kernel))
    | 2, 1, _, _, hn => exact va_Nc.of (hfl (.not (.castable "java/lang/UnsupportedOperationException" "java/util/NoSuchElementException")) (by decide +kernel))
    | 2, 2, _, _, hn => exact absurd rfl hn
    | 2, 3, _, _, hn => exact va_Nc.of (hfl (.not (.castable "java/lang/UnsupportedOperationException" "java/lang/IllegalStateException")) (by decide +kernel))
    | 2, 4, _, _, hn => exact va_Nc.of (hfl (.not (.castable "java/lang/UnsupportedOperationException" "java/lang/IndexOutOfBoundsException")) (by decide +kernel))
    | 2, y + 5, _, hy, _ => exact absurd hy (by omega)
    | 3, 0, _, _, hn => exact va_Nc.of (hfl (.not (.castable "java/lang/IllegalStateException" "java/lang/IllegalArgumentException")) (by decide +kernel))
    | 3, 1, _, _, hn => exact va_Nc.of (hfl (.not (.castable "java/lang/IllegalStateException" "java/util/NoSuchElementException")) (by decide +kernel))
    | 3, 2, _, _, hn => exact va_Nc.of (hfl (.not (.castable "java/lang/IllegalStateException" "java/lang/UnsupportedOperationException")) (by decide +kernel))
    | 3, 3, _, _, hn => exact absurd rfl hn
    | 3, 4, _, _, hn => exact va_Nc.of (hfl (.not (.castable "java/lang/IllegalStateException" "java/lang/IndexOutOfBoundsException")) (by decide +kernel))
    | 3, y + 5, _, hy, _ => exact absurd hy (by omega)
    | 4, 0, _, _, hn => exact va_Nc.of (hfl (.not (.castable "java/lang/IndexOutOfBoundsException" "java/lang/IllegalArgumentException")) (by decide +kernel))
    | 4, 1, _, _, hn => exact va_Nc.of (hfl (.not (.castable "java/lang/IndexOutOfBoundsException" "java/util/NoSuchElementException")) (by decide +kernel))
    | 4, 2, _, _, hn => exact va_Nc.of (hfl (.not (.castable "java/lang/IndexOutOfBoundsException" "java/lang/UnsupportedOperationException")) (by decide +kernel))
    | 4, 3, _, _, hn => exact va_Nc.of (hfl (.not (.castable "java/lang/IndexOutOfBoundsException" "java/lang/IllegalStateException")) (by decide +kernel))
    | 4, 4, _, _, hn => exact absurd rfl hn
    | 4, y + 5, _, hy, _ => exact absurd hy (by omega)
    | x + 5, _, hx, _, _ => exact absurd hx (by omega)
set_option maxRecDepth 100000 in
set_option maxHeartbeats 4000000 in
theorem law_of_run {p : Program} {e : Env} {s : State} {m : MethodId} {below : List Frame} {meth : Method} {c : Code} {l : Launch} (hl : l.stackTraces = false) {b L : Nat} {xs : Nat → Int32} (hL : L ≤ 2050) (C0 : lw_At p s m meth c b L xs) {h' : am_H} (hrun : F_law L xs = some (.inl (some (.inl (.int 1))), h')) : W p l e room_1 s m #[Value.ref b] below meth c s.heap [] 0 0 (lw_Z below #[Value.ref b] s) (entryFrame m ([Value.ref b] : List Value).toArray 7) := by
  obtain ⟨hx, hb, hr, hml, hown, hts, hX, hbl, hlocks, hgv, htab⟩ := C0
  have hA : ∀ q : Nat, s.heap.size ≤ q → (fun q : Nat => s.heap.size ≤ q) q := fun _ h => h
  have hnA : ∀ a : Nat, a < s.heap.size → ¬ (fun q : Nat => s.heap.size ≤ q) a := fun a h => Nat.not_le.mpr h
  have htg : ∀ w ∈ lw_good, w.before #[Value.ref b] s = true := fun w hw => hts w (List.mem_filter.mp hw).1
  have hfl := flat_of_before _ hgv
  obtain ⟨c0, iS0, hK0⟩ := u_known (C := RX0) (T := TX0) (N := 10) (n := 10) htg hinX0 (htg _ w_1_26)
  obtain ⟨c1, iS1, hK1⟩ := u_known (C := RX1) (T := TX1) (N := 8) (n := 8) htg hinX1 (htg _ w_1_16)
  obtain ⟨c2, iS2, hK2⟩ := u_known (C := RX2) (T := TX2) (N := 20) (n := 20) htg hinX2 (htg _ w_3_6)
  obtain ⟨a0, hA0⟩ := am_rc (htg _ w_1_78) (fun C => by simp)
  obtain ⟨a1, hA1⟩ := am_rc (htg _ w_1_79) (fun C => by simp)
  obtain ⟨a2, hA2⟩ := am_rcA (hts _ z_1_24)
  obtain ⟨a3, hA3⟩ := am_rc (htg _ w_3_208) (fun C => by simp)
  obtain ⟨D, hD0, hD1, hD2⟩ : ∃ D : va_G, u_Kn s RX0 TX0 10 (D.1 0) (D.2 0) ∧ u_Kn s RX1 TX1 8 (D.1 1) (D.2 1) ∧ u_Kn s RX2 TX2 20 (D.1 2) (D.2 2) :=
    ⟨(fun k => if k = 0 then c0 else if k = 1 then c1 else c2, fun k => if k = 0 then iS0 else if k = 1 then iS1 else iS2), hK0, hK1, hK2⟩
  obtain ⟨tc, t0, t1, t2, t3⟩ : ∃ tc : Nat → ClassId, tc 0 = a0 ∧ tc 1 = a1 ∧ tc 2 = a2 ∧ tc 3 = a3 := ⟨fun k => if k = 0 then a0 else if k = 1 then a1 else if k = 2 then a2 else a3, rfl, rfl, rfl, rfl⟩
  subst t0; subst t1; subst t2; subst t3
  have hK : va_K D am_cl0 (am_tys tc) s := by
    refine ⟨fun k q hq => ?_, fun k q hq => ?_⟩
    · match k, hq with
      | 0, hq => cases hq; exact hD0
      | 1, hq => cases hq; exact hD1
      | 2, hq => cases hq; exact hD2
      | k + 3, hq => simp [am_cl0] at hq
    · match k, hq with
      | 0, hq => cases hq; exact hA0
      | 1, hq => cases hq; exact hA1
      | 2, hq => cases hq; exact hA2
      | 3, hq => cases hq; exact hA3
      | k + 4, hq => simp [am_tys] at hq
  have hel : ∀ j : Nat, j < 3 → (Term.elem (.static "PagingKernel" "DATA_AT_START" "[I") (.int (Int32.ofNat j))).eval #[Value.ref b] s none [] s = some (.int (if j = 0 then 1 else if j = 1 then 2 else 4)) := by
    intro j hj
    match j, hj with
    | 0, _ => exact va_eqt (hfl (.eq (.elem (.static "PagingKernel" "DATA_AT_START" "[I") (.int 0)) (.int 1)) (by decide +kernel))
    | 1, _ => exact va_eqt (hfl (.eq (.elem (.static "PagingKernel" "DATA_AT_START" "[I") (.int 1)) (.int 2)) (by decide +kernel))
    | 2, _ => exact va_eqt (hfl (.eq (.elem (.static "PagingKernel" "DATA_AT_START" "[I") (.int 2)) (.int 4)) (by decide +kernel))
    | j + 3, hj => exact absurd hj (by omega)
  obtain ⟨td, htd, hTd⟩ := va_Tof (A := fun q : Nat => s.heap.size ≤ q) (N := 3) (f := fun j => .int (if j = 0 then 1 else if j = 1 then 2 else 4)) (by decide) (hfl (.arrayOf (.static "PagingKernel" "DATA_AT_START" "[I") .int) (by decide +kernel)) (va_eqt (hfl (.eq (.length (.static "PagingKernel" "DATA_AT_START" "[I")) (.int 3)) (by decide +kernel))) hel hnA
  obtain ⟨ad0, e0, e1⟩ : ∃ ad0 : am_A, ad0.2 0 = td ∧ ad0.2 1 = b := ⟨(fun _ _ => 0, fun j => if j = 0 then td else b), rfl, rfl⟩
  have hTs : va_T .int b L (fun j => .int (xs j)) (fun q : Nat => s.heap.size ≤ q) s s.heap := by
    obtain ⟨scr, h1, h2, h3, h4, h5⟩ := hX
    exact ⟨scr, h1, h2, h3, Nat.le_of_eq h4.symm, by rw [h4], h5, hnA b hbl⟩
  have hro0 : am_ro am_rs0 ad0.2 (fun q : Nat => s.heap.size ≤ q) s s.heap := by
    intro j n f hj
    match j, hj with
    | 0, hj =>
      cases hj
      rw [e0]
      exact hTd
    | j + 1, hj => cases hj
  have hroL : am_ro (am_rsL L xs) ad0.2 (fun q : Nat => s.heap.size ≤ q) s s.heap := by
    intro j n f hj
    match j, hj with
    | 0, hj =>
      cases hj
      rw [e0]
      exact hTd
    | 1, hj =>
      cases hj
      rw [e1]
      exact hTs
    | j + 2, hj => cases hj
  have hzs : am_zs am_zs0 ad0.2 (fun q : Nat => s.heap.size ≤ q) s s.heap := by
    refine ⟨am_ncs hfl, hts _ z_1_24, ?_, ?_, vx_Zqof (hts _ z_1_189) (htg _ w_1_6) (hfl (.isRef (.static "java/lang/Throwable" "UNASSIGNED_STACK" "[Ljava/lang/StackTraceElement;")) (by decide +kernel)) hnA, vx_Zqof (hts _ z_1_191) (htg _ w_1_6) (hfl (.isRef (.static "java/lang/Throwable" "SUPPRESSED_SENTINEL" "Ljava/util/List;")) (by decide +kernel)) hnA⟩
    · exact List.forall_mem_cons.mpr ⟨⟨rfl, va_Nw.of rfl (hts _ z_1_164)⟩, List.forall_mem_cons.mpr ⟨⟨rfl, va_Nw.of rfl (hts _ z_1_233)⟩, List.forall_mem_cons.mpr ⟨⟨rfl, va_Nw.of rfl (hts _ z_2_12)⟩, List.forall_mem_cons.mpr ⟨⟨rfl, va_Nw.of rfl (hts _ z_2_65)⟩, List.forall_mem_cons.mpr ⟨⟨rfl, va_Nw.of rfl (hts _ z_2_107)⟩, List.forall_mem_cons.mpr ⟨⟨rfl, va_Nw.of rfl (hts _ z_1_50)⟩, List.forall_mem_cons.mpr ⟨⟨rfl, va_Nw.of rfl (hts _ z_1_52)⟩, List.forall_mem_cons.mpr ⟨⟨rfl, va_Nw.of rfl (hts _ z_1_54)⟩, List.forall_mem_cons.mpr ⟨⟨rfl, va_Nw.of rfl (hts _ z_1_56)⟩, List.forall_mem_cons.mpr ⟨⟨rfl, va_Nw.of rfl (hts _ z_1_165)⟩, List.forall_mem_cons.mpr ⟨⟨rfl, va_Nw.of rfl (hts _ z_1_166)⟩, List.forall_mem_cons.mpr ⟨⟨rfl, va_Nw.of rfl (hts _ z_1_167)⟩, List.forall_mem_cons.mpr ⟨⟨rfl, va_Nw.of rfl (hts _ z_1_168)⟩, List.forall_mem_cons.mpr ⟨⟨rfl, va_Nw.of rfl (hts _ z_1_169)⟩, List.forall_mem_cons.mpr ⟨⟨rfl, va_Nw.of rfl (hts _ z_1_170)⟩, fun q hq => nomatch hq⟩⟩⟩⟩⟩⟩⟩⟩⟩⟩⟩⟩⟩⟩⟩
    · refine List.forall_mem_cons.mpr ⟨?_, fun q hq => nomatch hq⟩
      show va_Z "PagingKernel" "DATA_AT_START" "[I" (.ref (ad0.2 0)) _ s s.heap
      rw [e0]
      exact va_Zref (hts _ z_1_109) (htg _ w_1_1) htd hnA
  have htc : ∀ w ∈ Cond.initialized RL :: lw_good, w.before #[Value.ref b] s = true := by
    intro w hw
    rcases List.mem_cons.mp hw with rfl | hw
    · exact hts _ (List.mem_append_right _ (List.mem_append_left _ (List.mem_of_getElem? (i := 0) rfl)))
    · exact htg w hw
  have hS : CallFix p m c code 7 s #[Value.ref b] (Cond.initialized RL :: lw_good) RL := ⟨hx, hb, hml, hown, htc⟩
  have C : am_Cx p l room_1 s m #[Value.ref b] meth c code 7 (Cond.initialized RL :: lw_good) RL D am_cl0 tc (fun q : Nat => s.heap.size ≤ q) (am_rsL L xs) am_zs0 [] ad0 := ⟨⟨hS, hK, hA, hroL⟩, hzs, hlocks, htab, hl⟩
  have C' : am_Cx p l room_1 s m #[Value.ref b] meth c code 7 (Cond.initialized RL :: lw_good) RL D am_cl0 tc (fun q : Nat => s.heap.size ≤ q) am_rs0 am_zs0 [] ad0 := ⟨⟨hS, hK, hA, hro0⟩, hzs, hlocks, htab, hl⟩
  have hlv := lv_entry ([.ref b]) (n := 7) (Nat.le_of_ble_eq_true rfl)
  rw [lg_entry_eq]
  have w := am_lp_ok (below := below) (e := e) (n0 := 0) C.1 (rt := some .boolean) hr hlocks (hs := []) htab (fun q hq => by cases hq) (T := T_L_law) chkL (X := X_L_law (am_rsL L xs)) (fun key φ hk => okL hl C C' (key, φ) (am_lkX hk)) 1000 0 _ [] [] (616043, 7247942) hrun ad0 s.heap [] 0 0 _ ⟨Nat.le_refl _, fun _ _ => rfl, rfl, fun k q hq => by simp [am_ws] at hq, ⟨fun i j p q hq => by simp [am_ws] at hq, fun k q hq => by simp [am_ws] at hq⟩, va_S.rf⟩ (by show lv_has _ 7 [(0, .ref (ad0.2 1))]; rw [e1]; exact hlv) (by decide) (by decide)
  intro T hT X
  obtain ⟨t, w1, o, w2, w3, w4⟩ := w T hT X
  refine ⟨t, w1, o, w2, w3, ?_⟩
  rcases w4 with ⟨⟨⟨v, h, ad, eo, ho, -⟩, -⟩, Lc, ⟨hv, hW, hsame⟩, hLc⟩ | ⟨q, -, E, ce, L9, ⟨⟨x, h9, ad9, -, e9, -⟩, -⟩, -⟩
  · cases eo
    exact ⟨ho, hv, hW, hsame.weaken (fun y hy hlt => absurd hlt (Nat.not_lt.mpr (hLc y hy))) (Nat.le_refl _) (Nat.le_refl _)⟩
  · cases e9
end
section
/-! the runs as functions of the state alone: arrays by cell number, the grid -/
abbrev KS : Type := (Nat → Nat → Int32) × (Nat → Nat → Int32)
abbrev KR : Type := Option ((Option Int32 ⊕ Nat) × KS)
def kS (s : KS) (c i : Nat) (x : Int32) : KS := (va_up s.1 c (upd (s.1 c) i x), s.2)
def kG (s : KS) (p q : Nat) (x : Int32) : KS := (s.1, va_up s.2 p (upd (s.2 p) q x))
def kC (s : KS) (c sp dp n : Nat) : KS := (va_up s.1 c (va_cpy (s.1 c) (s.1 c) sp dp n), s.2)
def kbi (o : KR) (G : Int32 → KS → KR) : KR := match o with
  | some (.inl (some x), s) => G x s
  | some (.inr x, s) => some (.inr x, s)
  | _ => none
def kbv (o : KR) (G : KS → KR) : KR := match o with
  | some (.inl none, s) => G s
  | some (.inr x, s) => some (.inr x, s)
  | _ => none
/-- the class's cells 0 .. 14 -/
def kH (nf ns : Nat) (rest : am_H) (s : KS) : am_H :=
  .inr (.inr (.inl (1, [.inl (.ref 8), .inl (.ref 1), .inl (.ref 2), .inl (.ref 3), .inl (.ref 4), .inl (.ref 5), .inl (.ref 6), .inl (.ref 7)]))) :: .inl (0, 6, s.1 1) :: .inl (0, 6, s.1 2) :: .inl (0, 6, s.1 3) :: .inl (0, 6, s.1 4) :: .inl (0, 6, s.1 5) :: .inl (0, 6, s.1 6) :: .inr (.inl (6, 11, s.2)) ::
  .inr (.inr (.inl (0, [.inl (.ref 9), .inl (.ref 10), .inl (.ref 11), .inl (.ref 12), .inl (.ref 13), .inl (.ref 14), .inl (.int (s.1 8 6)), .inl (.int (s.1 8 7)), .inl (.int (s.1 8 8)), .inl (.int (s.1 8 9))]))) :: .inl (0, 240, s.1 9) :: .inl (0, 60, s.1 10) :: .inl (0, 60, s.1 11) :: .inl (0, nf, s.1 12) :: .inl (1, nf, s.1 13) :: .inl (0, ns, s.1 14) :: rest
/-- the reference's cells 15 .. 28 -/
def mH (rest : am_H) (t : KS) : am_H :=
  .inr (.inr (.inl (2, [.inl (.int (t.1 15 0)), .inl (.int (t.1 15 1)), .inl (.int (t.1 15 2)), .inl (.ref 16), .inl (.ref 17), .inl (.ref 18), .inl (.ref 19), .inl (.ref 20), .inl (.ref 21), .inl (.ref 22), .inl (.ref 23), .inl (.ref 24), .inl (.ref 25), .inl (.ref 26), .inl (.ref 27), .inl (.ref 28), .inl (.int (t.1 15 16)), .inl (.int (t.1 15 17)), .inl (.int (t.1 15 18)), .inl (.int (t.1 15 19))]))) ::
  .inl (0, 6, t.1 16) :: .inl (0, 6, t.1 17) :: .inl (0, 6, t.1 18) :: .inl (0, 6, t.1 19) :: .inl (0, 6, t.1 20) :: .inl (0, 6, t.1 21) :: .inl (0, 54, t.1 22) :: .inl (0, 256, t.1 23) :: .inl (1, 64, t.1 24) :: .inl (0, 70, t.1 25) :: .inl (0, 10, t.1 26) :: .inl (1, 10, t.1 27) :: .inl (1, 20, t.1 28) :: rest
def hM (nf ns : Nat) (rest : am_H) (s0 : KS) (t : KS) : am_H := kH nf ns (mH rest t) s0
def am_lf (H : KS → am_H) (o : KR) : Option am_O := match o with
  | some (.inl (some x), s) => some (.inl (some (.inl (.int x))), H s)
  | some (.inl none, s) => some (.inl none, H s)
  | some (.inr x, s) => some (.inr x, H s)
  | none => none
theorem am_lcd {H : KS → am_H} {c : Bool} {a b : Option am_O} {A B : KR} (h1 : a = am_lf H A) (h2 : b = am_lf H B) : cond c a b = am_lf H (cond c A B) := by
  cases c
  · exact h2
  · exact h1
theorem am_lite {H : KS → am_H} {P : Prop} [Decidable P] {a : Option am_O} {A : KR} (h1 : a = am_lf H A) : (if P then none else a) = am_lf H (if P then none else A) := by
  by_cases h : P
  · rw [if_pos h, if_pos h]; rfl
  · rw [if_neg h, if_neg h]; exact h1
theorem am_lbi {H : KS → am_H} {o : KR} {K : Int32 → am_H → Option am_O} {KX : Nat → am_H → Option am_O} {G : Int32 → KS → KR} (hK : ∀ x s, K x (H s) = am_lf H (G x s)) (hX : ∀ x s, KX x (H s) = some (.inr x, H s)) : am_ri (am_lf H o) K KX = am_lf H (kbi o G) := by
  match o with
  | none => rfl
  | some (.inl (some x), s) => exact hK x s
  | some (.inl none, s) => rfl
  | some (.inr x, s) => exact hX x s
theorem am_lbv {H : KS → am_H} {o : KR} {K : am_H → Option am_O} {KX : Nat → am_H → Option am_O} {G : KS → KR} (hK : ∀ s, K (H s) = am_lf H (G s)) (hX : ∀ x s, KX x (H s) = some (.inr x, H s)) : am_rv (am_lf H o) K KX = am_lf H (kbv o G) := by
  match o with
  | none => rfl
  | some (.inl (some x), s) => rfl
  | some (.inl none, s) => exact hK s
  | some (.inr x, s) => exact hX x s
end
section
set_option maxRecDepth 20000 in
def p_X0_textPage (nf ns : Nat) (a0 : Int32) (a1 : Int32) (s : KS) : KR := some (.inl (some ((a0 * (2 : Int32)) + a1)), s)
set_option maxRecDepth 20000 in
theorem e_X0_textPage {nf ns : Nat} {rest : am_H} (a0 : Int32) (a1 : Int32) (s : KS) : F_X0_textPage [.inl (.int a0), .inl (.int a1)] (kH nf ns rest s) = am_lf (kH nf ns rest) (p_X0_textPage nf ns a0 a1 s) := by
  rw [p_X0_textPage]
  rfl
set_option maxRecDepth 20000 in
def p_X0_join (nf ns : Nat) (a1 : Int32) (s : KS) : KR := cond (am_in a1 60) (cond (am_in a1 60) (some (.inl none, (kS s 10 a1.toNatClampNeg (((s.1 10 a1.toNatClampNeg) + (1 : Int32)))))) none) none
set_option maxRecDepth 20000 in
theorem e_X0_join {nf ns : Nat} {rest : am_H} (a1 : Int32) (s : KS) : F_X0_join [.inl (.ref 8), .inl (.int a1)] (kH nf ns rest s) = am_lf (kH nf ns rest) (p_X0_join nf ns a1 s) := by
  rw [p_X0_join]
  refine (show _ = cond (am_in a1 60) _ none from rfl).trans (am_lcd (B := none) ?_ rfl)
  refine (show _ = cond (am_in a1 60) _ none from rfl).trans (am_lcd (B := none) ?_ rfl)
  rfl
set_option maxRecDepth 20000 in
def p_X0_isIn (nf ns : Nat) (a1 : Int32) (s : KS) : KR := cond (am_in a1 60) (cond (decide ((s.1 11 a1.toNatClampNeg) = (-1 : Int32))) (some (.inl (some (0 : Int32)), s)) (cond (am_in a1 60) (cond (decide ((100 : Int32) ≤ (s.1 11 a1.toNatClampNeg))) (some (.inl (some (0 : Int32)), s)) (some (.inl (some (1 : Int32)), s))) none)) none
set_option maxRecDepth 20000 in
theorem e_X0_isIn {nf ns : Nat} {rest : am_H} (a1 : Int32) (s : KS) : F_X0_isIn [.inl (.ref 8), .inl (.int a1)] (kH nf ns rest s) = am_lf (kH nf ns rest) (p_X0_isIn nf ns a1 s) := by
  rw [p_X0_isIn]
  refine (show _ = cond (am_in a1 60) _ none from rfl).trans (am_lcd (B := none) ?_ rfl)
  refine (show _ = cond (decide ((s.1 11 a1.toNatClampNeg) = (-1 : Int32))) _ _ from rfl).trans (am_lcd ?_ ?_)
  · rfl
  · refine (show _ = cond (am_in a1 60) _ none from rfl).trans (am_lcd (B := none) ?_ rfl)
    refine (show _ = cond (decide ((100 : Int32) ≤ (s.1 11 a1.toNatClampNeg))) _ _ from rfl).trans (am_lcd ?_ ?_)
    · rfl
    · rfl
set_option maxRecDepth 20000 in
def p_X0_vacate (nf ns : Nat) (a1 : Int32) (s : KS) : KR := kbi (p_X0_isIn nf ns a1 s) (fun x2 s1 => cond (decide (x2 = (0 : Int32))) (cond (am_in a1 60) (cond (decide ((s1.1 11 a1.toNatClampNeg) = (-1 : Int32))) (cond (am_in a1 60) (some (.inl none, (kS s1 11 a1.toNatClampNeg ((-1 : Int32))))) none) (cond (am_in a1 60) (cond (am_in ((s1.1 11 a1.toNatClampNeg) - (100 : Int32)) ns) (cond (am_in a1 60) (some (.inl none, (kS (kS s1 14 ((s1.1 11 a1.toNatClampNeg) - (100 : Int32)).toNatClampNeg ((-1 : Int32))) 11 a1.toNatClampNeg ((-1 : Int32))))) none) none) none)) none) (cond (am_in a1 60) (cond (am_in (s1.1 11 a1.toNatClampNeg) nf) (cond (am_in a1 60) (some (.inl none, (kS (kS s1 12 (s1.1 11 a1.toNatClampNeg).toNatClampNeg ((-1 : Int32))) 11 a1.toNatClampNeg ((-1 : Int32))))) none) none) none))
set_option maxRecDepth 20000 in
theorem e_X0_vacate {nf ns : Nat} {rest : am_H} (a1 : Int32) (s : KS) : F_X0_vacate [.inl (.ref 8), .inl (.int a1)] (kH nf ns rest s) = am_lf (kH nf ns rest) (p_X0_vacate nf ns a1 s) := by
  rw [p_X0_vacate]
  refine (show _ = am_ri (F_X0_isIn [.inl (.ref 8), .inl (.int a1)] (kH nf ns rest s)) _ _ from rfl).trans ?_
  rw [e_X0_isIn a1 s]
  refine am_lbi (fun x2 s1 => ?_) (fun _ _ => rfl)
  refine (show _ = cond (decide (x2 = (0 : Int32))) _ _ from rfl).trans (am_lcd ?_ ?_)
  · refine (show _ = cond (am_in a1 60) _ none from rfl).trans (am_lcd (B := none) ?_ rfl)
    refine (show _ = cond (decide ((s1.1 11 a1.toNatClampNeg) = (-1 : Int32))) _ _ from rfl).trans (am_lcd ?_ ?_)
    · refine (show _ = cond (am_in a1 60) _ none from rfl).trans (am_lcd (B := none) ?_ rfl)
      rfl
    · refine (show _ = cond (am_in a1 60) _ none from rfl).trans (am_lcd (B := none) ?_ rfl)
      refine (show _ = cond (am_in ((s1.1 11 a1.toNatClampNeg) - (100 : Int32)) ns) _ none from rfl).trans (am_lcd (B := none) ?_ rfl)
      refine (show _ = cond (am_in a1 60) _ none from rfl).trans (am_lcd (B := none) ?_ rfl)
      rfl
  · refine (show _ = cond (am_in a1 60) _ none from rfl).trans (am_lcd (B := none) ?_ rfl)
    refine (show _ = cond (am_in (s1.1 11 a1.toNatClampNeg) nf) _ none from rfl).trans (am_lcd (B := none) ?_ rfl)
    refine (show _ = cond (am_in a1 60) _ none from rfl).trans (am_lcd (B := none) ?_ rfl)
    rfl
set_option maxRecDepth 20000 in
def p_X0_leave (nf ns : Nat) (a1 : Int32) (s : KS) : KR := cond (am_in a1 60) (cond (am_in a1 60) (cond (am_in a1 60) (cond (!decide (((kS s 10 a1.toNatClampNeg (((s.1 10 a1.toNatClampNeg) - (1 : Int32)))).1 10 a1.toNatClampNeg) = (0 : Int32))) (some (.inl none, (kS s 10 a1.toNatClampNeg (((s.1 10 a1.toNatClampNeg) - (1 : Int32)))))) (kbv (p_X0_vacate nf ns a1 (kS s 10 a1.toNatClampNeg (((s.1 10 a1.toNatClampNeg) - (1 : Int32))))) (fun s1 => some (.inl none, s1)))) none) none) none
set_option maxRecDepth 20000 in
theorem e_X0_leave {nf ns : Nat} {rest : am_H} (a1 : Int32) (s : KS) : F_X0_leave [.inl (.ref 8), .inl (.int a1)] (kH nf ns rest s) = am_lf (kH nf ns rest) (p_X0_leave nf ns a1 s) := by
  rw [p_X0_leave]
  refine (show _ = cond (am_in a1 60) _ none from rfl).trans (am_lcd (B := none) ?_ rfl)
  refine (show _ = cond (am_in a1 60) _ none from rfl).trans (am_lcd (B := none) ?_ rfl)
  refine (show _ = cond (am_in a1 60) _ none from rfl).trans (am_lcd (B := none) ?_ rfl)
  refine (show _ = cond (!decide (((kS s 10 a1.toNatClampNeg (((s.1 10 a1.toNatClampNeg) - (1 : Int32)))).1 10 a1.toNatClampNeg) = (0 : Int32))) _ _ from rfl).trans (am_lcd ?_ ?_)
  · rfl
  · refine (show _ = am_rv (F_X0_vacate [.inl (.ref 8), .inl (.int a1)] (kH nf ns rest (kS s 10 a1.toNatClampNeg (((s.1 10 a1.toNatClampNeg) - (1 : Int32)))))) _ _ from rfl).trans ?_
    rw [e_X0_vacate a1 (kS s 10 a1.toNatClampNeg (((s.1 10 a1.toNatClampNeg) - (1 : Int32))))]
    refine am_lbv (fun s1 => ?_) (fun _ _ => rfl)
    rfl
set_option maxRecDepth 20000 in
def p_X0_newPage_L26 (nf ns : Nat) : Nat → Int32 → Int32 → KS → KR
  | 0, _, _, _ => none
  | n + 1, l1, l2, s => cond (decide ((4 : Int32) ≤ l2)) (cond (am_in l1 60) (some (.inl (some l1), (kS s 10 l1.toNatClampNeg ((1 : Int32))))) none) (cond (am_in ((l1 * (4 : Int32)) + l2) 240) (p_X0_newPage_L26 nf ns n l1 (l2 + (1 : Int32)) (kS s 9 ((l1 * (4 : Int32)) + l2).toNatClampNeg ((0 : Int32)))) none)
set_option maxRecDepth 20000 in
theorem b_X0_newPage_L26 {nf ns : Nat} {rest : am_H} (n : Nat) (ih : ∀ (l1 : Int32) (l2 : Int32) (s : KS), am_lp T_X0_newPage X_X0_newPage 3 (some .int) am_rs0 [] [(3, [0, 1]), (26, [0, 1, 2])] n 26 [(0, .inl (.ref 8)), (1, .inl (.int l1)), (2, .inl (.int l2))] [] (kH nf ns rest s) (rm_X0_newPage.cells, rm_X0_newPage.slots) = am_lf (kH nf ns rest) (p_X0_newPage_L26 nf ns n l1 l2 s)) (f : Nat) (l1 : Int32) (l2 : Int32) (s : KS) : am_go X_X0_newPage 3 (some .int) am_rs0 [] [(3, [0, 1]), (26, [0, 1, 2])] (am_lp T_X0_newPage X_X0_newPage 3 (some .int) am_rs0 [] [(3, [0, 1]), (26, [0, 1, 2])] n) (f + 17) (am_from 26 T_X0_newPage) [(0, .inl (.ref 8)), (1, .inl (.int l1)), (2, .inl (.int l2))] [] (kH nf ns rest s) (rm_X0_newPage.cells, rm_X0_newPage.slots) = am_lf (kH nf ns rest) (p_X0_newPage_L26 nf ns (n + 1) l1 l2 s) := by
  rw [p_X0_newPage_L26]
  refine (show _ = cond (decide ((4 : Int32) ≤ l2)) _ _ from rfl).trans (am_lcd ?_ ?_)
  · refine (show _ = cond (am_in l1 60) _ none from rfl).trans (am_lcd (B := none) ?_ rfl)
    rfl
  · refine (show _ = cond (am_in ((l1 * (4 : Int32)) + l2) 240) _ none from rfl).trans (am_lcd (B := none) ?_ rfl)
    exact ih l1 (l2 + (1 : Int32)) (kS s 9 ((l1 * (4 : Int32)) + l2).toNatClampNeg ((0 : Int32)))
set_option maxRecDepth 20000 in
theorem e_X0_newPage_L26 {nf ns : Nat} {rest : am_H} : ∀ (n : Nat) (l1 : Int32) (l2 : Int32) (s : KS), am_lp T_X0_newPage X_X0_newPage 3 (some .int) am_rs0 [] [(3, [0, 1]), (26, [0, 1, 2])] n 26 [(0, .inl (.ref 8)), (1, .inl (.int l1)), (2, .inl (.int l2))] [] (kH nf ns rest s) (rm_X0_newPage.cells, rm_X0_newPage.slots) = am_lf (kH nf ns rest) (p_X0_newPage_L26 nf ns n l1 l2 s)
  | 0, _, _, _ => by rw [p_X0_newPage_L26]; rfl
  | n + 1, l1, l2, s => b_X0_newPage_L26 n (e_X0_newPage_L26 n) 983 l1 l2 s
set_option maxRecDepth 20000 in
def p_X0_newPage_L3 (nf ns : Nat) : Nat → Int32 → KS → KR
  | 0, _, _ => none
  | n + 1, l1, s => cond (decide ((59 : Int32) ≤ l1)) (p_X0_newPage_L26 nf ns (n + 1) l1 (0 : Int32) s) (cond (am_in l1 60) (cond (decide ((s.1 10 l1.toNatClampNeg) ≤ (0 : Int32))) (p_X0_newPage_L26 nf ns (n + 1) l1 (0 : Int32) s) (p_X0_newPage_L3 nf ns n (l1 + (1 : Int32)) s)) none)
set_option maxRecDepth 20000 in
theorem b_X0_newPage_L3 {nf ns : Nat} {rest : am_H} (n : Nat) (ih : ∀ (l1 : Int32) (s : KS), am_lp T_X0_newPage X_X0_newPage 3 (some .int) am_rs0 [] [(3, [0, 1]), (26, [0, 1, 2])] n 3 [(0, .inl (.ref 8)), (1, .inl (.int l1))] [] (kH nf ns rest s) (rm_X0_newPage.cells, rm_X0_newPage.slots) = am_lf (kH nf ns rest) (p_X0_newPage_L3 nf ns n l1 s)) (f : Nat) (l1 : Int32) (s : KS) : am_go X_X0_newPage 3 (some .int) am_rs0 [] [(3, [0, 1]), (26, [0, 1, 2])] (am_lp T_X0_newPage X_X0_newPage 3 (some .int) am_rs0 [] [(3, [0, 1]), (26, [0, 1, 2])] n) (f + 30) (am_from 3 T_X0_newPage) [(0, .inl (.ref 8)), (1, .inl (.int l1))] [] (kH nf ns rest s) (rm_X0_newPage.cells, rm_X0_newPage.slots) = am_lf (kH nf ns rest) (p_X0_newPage_L3 nf ns (n + 1) l1 s) := by
  rw [p_X0_newPage_L3]
  refine (show _ = cond (decide ((59 : Int32) ≤ l1)) _ _ from rfl).trans (am_lcd ?_ ?_)
  · exact b_X0_newPage_L26 n (e_X0_newPage_L26 n) (f + 8) l1 (0 : Int32) s
  · refine (show _ = cond (am_in l1 60) _ none from rfl).trans (am_lcd (B := none) ?_ rfl)
    refine (show _ = cond (decide ((s.1 10 l1.toNatClampNeg) ≤ (0 : Int32))) _ _ from rfl).trans (am_lcd ?_ ?_)
    · exact b_X0_newPage_L26 n (e_X0_newPage_L26 n) (f + 3) l1 (0 : Int32) s
    · exact ih (l1 + (1 : Int32)) s
set_option maxRecDepth 20000 in
theorem e_X0_newPage_L3 {nf ns : Nat} {rest : am_H} : ∀ (n : Nat) (l1 : Int32) (s : KS), am_lp T_X0_newPage X_X0_newPage 3 (some .int) am_rs0 [] [(3, [0, 1]), (26, [0, 1, 2])] n 3 [(0, .inl (.ref 8)), (1, .inl (.int l1))] [] (kH nf ns rest s) (rm_X0_newPage.cells, rm_X0_newPage.slots) = am_lf (kH nf ns rest) (p_X0_newPage_L3 nf ns n l1 s)
  | 0, _, _ => by rw [p_X0_newPage_L3]; rfl
  | n + 1, l1, s => b_X0_newPage_L3 n (e_X0_newPage_L3 n) 970 l1 s
set_option maxRecDepth 20000 in
def p_X0_newPage (nf ns : Nat)  (s : KS) : KR := p_X0_newPage_L3 nf ns 400 (6 : Int32) s
set_option maxRecDepth 20000 in
theorem e_X0_newPage {nf ns : Nat} {rest : am_H}  (s : KS) : F_X0_newPage [.inl (.ref 8)] (kH nf ns rest s) = am_lf (kH nf ns rest) (p_X0_newPage nf ns  s) := by
  rw [p_X0_newPage]
  exact b_X0_newPage_L3 399 (e_X0_newPage_L3 399) 968 (6 : Int32) s
set_option maxRecDepth 20000 in
def p_X0_isText (nf ns : Nat) (a0 : Int32) (s : KS) : KR := cond (decide ((6 : Int32) ≤ a0)) (some (.inl (some (0 : Int32)), s)) (some (.inl (some (1 : Int32)), s))
set_option maxRecDepth 20000 in
theorem e_X0_isText {nf ns : Nat} {rest : am_H} (a0 : Int32) (s : KS) : F_X0_isText [.inl (.int a0)] (kH nf ns rest s) = am_lf (kH nf ns rest) (p_X0_isText nf ns a0 s) := by
  rw [p_X0_isText]
  refine (show _ = cond (decide ((6 : Int32) ≤ a0)) _ _ from rfl).trans (am_lcd ?_ ?_)
  · rfl
  · rfl
set_option maxRecDepth 20000 in
def p_X0_leastFree_14_L2 (nf ns : Nat) : Nat → Int32 → KS → KR
  | 0, _, _ => none
  | n + 1, l1, s => cond (decide ((Int32.ofNat ns) ≤ l1)) (some (.inl (some (-1 : Int32)), s)) (cond (am_in l1 ns) (cond (!decide ((s.1 14 l1.toNatClampNeg) = (-1 : Int32))) (p_X0_leastFree_14_L2 nf ns n (l1 + (1 : Int32)) s) (some (.inl (some l1), s))) none)
set_option maxRecDepth 20000 in
theorem b_X0_leastFree_14_L2 {nf ns : Nat} {rest : am_H} (n : Nat) (ih : ∀ (l1 : Int32) (s : KS), am_lp T_X0_leastFree X_X0_leastFree 2 (some .int) am_rs0 [] [(2, [0, 1])] n 2 [(0, .inl (.ref 14)), (1, .inl (.int l1))] [] (kH nf ns rest s) (rm_X0_leastFree.cells, rm_X0_leastFree.slots) = am_lf (kH nf ns rest) (p_X0_leastFree_14_L2 nf ns n l1 s)) (f : Nat) (l1 : Int32) (s : KS) : am_go X_X0_leastFree 2 (some .int) am_rs0 [] [(2, [0, 1])] (am_lp T_X0_leastFree X_X0_leastFree 2 (some .int) am_rs0 [] [(2, [0, 1])] n) (f + 14) (am_from 2 T_X0_leastFree) [(0, .inl (.ref 14)), (1, .inl (.int l1))] [] (kH nf ns rest s) (rm_X0_leastFree.cells, rm_X0_leastFree.slots) = am_lf (kH nf ns rest) (p_X0_leastFree_14_L2 nf ns (n + 1) l1 s) := by
  rw [p_X0_leastFree_14_L2]
  refine (show _ = cond (decide ((Int32.ofNat ns) ≤ l1)) _ _ from rfl).trans (am_lcd ?_ ?_)
  · rfl
  · refine (show _ = cond (am_in l1 ns) _ none from rfl).trans (am_lcd (B := none) ?_ rfl)
    refine (show _ = cond (!decide ((s.1 14 l1.toNatClampNeg) = (-1 : Int32))) _ _ from rfl).trans (am_lcd ?_ ?_)
    · exact ih (l1 + (1 : Int32)) s
    · rfl
set_option maxRecDepth 20000 in
theorem e_X0_leastFree_14_L2 {nf ns : Nat} {rest : am_H} : ∀ (n : Nat) (l1 : Int32) (s : KS), am_lp T_X0_leastFree X_X0_leastFree 2 (some .int) am_rs0 [] [(2, [0, 1])] n 2 [(0, .inl (.ref 14)), (1, .inl (.int l1))] [] (kH nf ns rest s) (rm_X0_leastFree.cells, rm_X0_leastFree.slots) = am_lf (kH nf ns rest) (p_X0_leastFree_14_L2 nf ns n l1 s)
  | 0, _, _ => by rw [p_X0_leastFree_14_L2]; rfl
  | n + 1, l1, s => b_X0_leastFree_14_L2 n (e_X0_leastFree_14_L2 n) 986 l1 s
set_option maxRecDepth 20000 in
def p_X0_leastFree_14 (nf ns : Nat)  (s : KS) : KR := p_X0_leastFree_14_L2 nf ns 400 (0 : Int32) s
set_option maxRecDepth 20000 in
theorem e_X0_leastFree_14 {nf ns : Nat} {rest : am_H}  (s : KS) : F_X0_leastFree [.inl (.ref 14)] (kH nf ns rest s) = am_lf (kH nf ns rest) (p_X0_leastFree_14 nf ns  s) := by
  rw [p_X0_leastFree_14]
  exact b_X0_leastFree_14_L2 399 (e_X0_leastFree_14_L2 399) 984 (0 : Int32) s
set_option maxRecDepth 20000 in
def p_X0_canGo (nf ns : Nat) (a1 : Int32) (s : KS) : KR := kbi (p_X0_isText nf ns a1 s) (fun x2 s1 => cond (!decide (x2 = (0 : Int32))) (some (.inl (some (1 : Int32)), s1)) (kbi (p_X0_leastFree_14 nf ns  s1) (fun x4 s3 => cond (decide (x4 = (-1 : Int32))) (some (.inl (some (0 : Int32)), s3)) (some (.inl (some (1 : Int32)), s3)))))
set_option maxRecDepth 20000 in
theorem e_X0_canGo {nf ns : Nat} {rest : am_H} (a1 : Int32) (s : KS) : F_X0_canGo [.inl (.ref 8), .inl (.int a1)] (kH nf ns rest s) = am_lf (kH nf ns rest) (p_X0_canGo nf ns a1 s) := by
  rw [p_X0_canGo]
  refine (show _ = am_ri (F_X0_isText [.inl (.int a1)] (kH nf ns rest s)) _ _ from rfl).trans ?_
  rw [e_X0_isText a1 s]
  refine am_lbi (fun x2 s1 => ?_) (fun _ _ => rfl)
  refine (show _ = cond (!decide (x2 = (0 : Int32))) _ _ from rfl).trans (am_lcd ?_ ?_)
  · rfl
  · refine (show _ = am_ri (F_X0_leastFree [.inl (.ref 14)] (kH nf ns rest s1)) _ _ from rfl).trans ?_
    rw [e_X0_leastFree_14  s1]
    refine am_lbi (fun x4 s3 => ?_) (fun _ _ => rfl)
    refine (show _ = cond (decide (x4 = (-1 : Int32))) _ _ from rfl).trans (am_lcd ?_ ?_)
    · rfl
    · rfl
set_option maxRecDepth 20000 in
def p_X0_sendOut (nf ns : Nat) (a1 : Int32) (s : KS) : KR := kbi (p_X0_isText nf ns a1 s) (fun x2 s1 => cond (decide (x2 = (0 : Int32))) (kbi (p_X0_leastFree_14 nf ns  s1) (fun x4 s3 => kbv (p_X0_vacate nf ns a1 s3) (fun s5 => cond (decide (x4 = (-1 : Int32))) (some (.inl none, (kS s5 8 9 ((s5.1 8 9) + (1 : Int32))))) (cond (am_in x4 ns) (cond (am_in a1 60) (some (.inl none, (kS (kS (kS s5 14 x4.toNatClampNeg (a1)) 11 a1.toNatClampNeg (((100 : Int32) + x4))) 8 9 (((kS (kS s5 14 x4.toNatClampNeg (a1)) 11 a1.toNatClampNeg (((100 : Int32) + x4))).1 8 9) + (1 : Int32))))) none) none)))) (kbv (p_X0_vacate nf ns a1 s1) (fun s6 => some (.inl none, (kS s6 8 9 ((s6.1 8 9) + (1 : Int32)))))))
set_option maxRecDepth 20000 in
theorem e_X0_sendOut {nf ns : Nat} {rest : am_H} (a1 : Int32) (s : KS) : F_X0_sendOut [.inl (.ref 8), .inl (.int a1)] (kH nf ns rest s) = am_lf (kH nf ns rest) (p_X0_sendOut nf ns a1 s) := by
  rw [p_X0_sendOut]
  refine (show _ = am_ri (F_X0_isText [.inl (.int a1)] (kH nf ns rest s)) _ _ from rfl).trans ?_
  rw [e_X0_isText a1 s]
  refine am_lbi (fun x2 s1 => ?_) (fun _ _ => rfl)
  refine (show _ = cond (decide (x2 = (0 : Int32))) _ _ from rfl).trans (am_lcd ?_ ?_)
  · refine (show _ = am_ri (F_X0_leastFree [.inl (.ref 14)] (kH nf ns rest s1)) _ _ from rfl).trans ?_
    rw [e_X0_leastFree_14  s1]
    refine am_lbi (fun x4 s3 => ?_) (fun _ _ => rfl)
    refine (show _ = am_rv (F_X0_vacate [.inl (.ref 8), .inl (.int a1)] (kH nf ns rest s3)) _ _ from rfl).trans ?_
    rw [e_X0_vacate a1 s3]
    refine am_lbv (fun s5 => ?_) (fun _ _ => rfl)
    refine (show _ = cond (decide (x4 = (-1 : Int32))) _ _ from rfl).trans (am_lcd ?_ ?_)
    · rfl
    · refine (show _ = cond (am_in x4 ns) _ none from rfl).trans (am_lcd (B := none) ?_ rfl)
      refine (show _ = cond (am_in a1 60) _ none from rfl).trans (am_lcd (B := none) ?_ rfl)
      rfl
  · refine (show _ = am_rv (F_X0_vacate [.inl (.ref 8), .inl (.int a1)] (kH nf ns rest s1)) _ _ from rfl).trans ?_
    rw [e_X0_vacate a1 s1]
    refine am_lbv (fun s6 => ?_) (fun _ _ => rfl)
    rfl
set_option maxRecDepth 20000 in
def p_X0_lookAndMoveOn (nf ns : Nat)  (s : KS) : KR := cond (am_in (s.1 8 6) nf) (cond (decide ((s.1 12 (s.1 8 6).toNatClampNeg) = (-1 : Int32))) (cond (am_in (s.1 8 6) nf) (cond (decide ((Int32.ofNat nf) ≤ (((kS s 13 (s.1 8 6).toNatClampNeg (am_nar 1 (0 : Int32))).1 8 6) + (1 : Int32)))) (some (.inl (some (0 : Int32)), (kS (kS s 13 (s.1 8 6).toNatClampNeg (am_nar 1 (0 : Int32))) 8 6 (0 : Int32)))) (some (.inl (some (0 : Int32)), (kS (kS s 13 (s.1 8 6).toNatClampNeg (am_nar 1 (0 : Int32))) 8 6 (((kS s 13 (s.1 8 6).toNatClampNeg (am_nar 1 (0 : Int32))).1 8 6) + (1 : Int32)))))) none) (cond (am_in (s.1 8 6) nf) (cond (!decide ((s.1 13 (s.1 8 6).toNatClampNeg) = (0 : Int32))) (cond (am_in (s.1 8 6) nf) (cond (decide ((Int32.ofNat nf) ≤ (((kS s 13 (s.1 8 6).toNatClampNeg (am_nar 1 (0 : Int32))).1 8 6) + (1 : Int32)))) (some (.inl (some (0 : Int32)), (kS (kS s 13 (s.1 8 6).toNatClampNeg (am_nar 1 (0 : Int32))) 8 6 (0 : Int32)))) (some (.inl (some (0 : Int32)), (kS (kS s 13 (s.1 8 6).toNatClampNeg (am_nar 1 (0 : Int32))) 8 6 (((kS s 13 (s.1 8 6).toNatClampNeg (am_nar 1 (0 : Int32))).1 8 6) + (1 : Int32)))))) none) (kbi (p_X0_canGo nf ns (s.1 12 (s.1 8 6).toNatClampNeg) s) (fun x2 s1 => cond (decide (x2 = (0 : Int32))) (cond (am_in (s1.1 8 6) nf) (cond (decide ((Int32.ofNat nf) ≤ (((kS s1 13 (s1.1 8 6).toNatClampNeg (am_nar 1 (0 : Int32))).1 8 6) + (1 : Int32)))) (some (.inl (some (0 : Int32)), (kS (kS s1 13 (s1.1 8 6).toNatClampNeg (am_nar 1 (0 : Int32))) 8 6 (0 : Int32)))) (some (.inl (some (0 : Int32)), (kS (kS s1 13 (s1.1 8 6).toNatClampNeg (am_nar 1 (0 : Int32))) 8 6 (((kS s1 13 (s1.1 8 6).toNatClampNeg (am_nar 1 (0 : Int32))).1 8 6) + (1 : Int32)))))) none) (kbv (p_X0_sendOut nf ns (s.1 12 (s.1 8 6).toNatClampNeg) s1) (fun s3 => cond (am_in (s3.1 8 6) nf) (cond (decide ((Int32.ofNat nf) ≤ (((kS s3 13 (s3.1 8 6).toNatClampNeg (am_nar 1 (0 : Int32))).1 8 6) + (1 : Int32)))) (some (.inl (some (1 : Int32)), (kS (kS s3 13 (s3.1 8 6).toNatClampNeg (am_nar 1 (0 : Int32))) 8 6 (0 : Int32)))) (some (.inl (some (1 : Int32)), (kS (kS s3 13 (s3.1 8 6).toNatClampNeg (am_nar 1 (0 : Int32))) 8 6 (((kS s3 13 (s3.1 8 6).toNatClampNeg (am_nar 1 (0 : Int32))).1 8 6) + (1 : Int32)))))) none))))) none)) none
set_option maxRecDepth 20000 in
theorem e_X0_lookAndMoveOn {nf ns : Nat} {rest : am_H}  (s : KS) : F_X0_lookAndMoveOn [.inl (.ref 8)] (kH nf ns rest s) = am_lf (kH nf ns rest) (p_X0_lookAndMoveOn nf ns  s) := by
  rw [p_X0_lookAndMoveOn]
  refine (show _ = cond (am_in (s.1 8 6) nf) _ none from rfl).trans (am_lcd (B := none) ?_ rfl)
  refine (show _ = cond (decide ((s.1 12 (s.1 8 6).toNatClampNeg) = (-1 : Int32))) _ _ from rfl).trans (am_lcd ?_ ?_)
  · refine (show _ = cond (am_in (s.1 8 6) nf) _ none from rfl).trans (am_lcd (B := none) ?_ rfl)
    refine (show _ = cond (decide ((Int32.ofNat nf) ≤ (((kS s 13 (s.1 8 6).toNatClampNeg (am_nar 1 (0 : Int32))).1 8 6) + (1 : Int32)))) _ _ from rfl).trans (am_lcd ?_ ?_)
    · rfl
    · rfl
  · refine (show _ = cond (am_in (s.1 8 6) nf) _ none from rfl).trans (am_lcd (B := none) ?_ rfl)
    refine (show _ = cond (!decide ((s.1 13 (s.1 8 6).toNatClampNeg) = (0 : Int32))) _ _ from rfl).trans (am_lcd ?_ ?_)
    · refine (show _ = cond (am_in (s.1 8 6) nf) _ none from rfl).trans (am_lcd (B := none) ?_ rfl)
      refine (show _ = cond (decide ((Int32.ofNat nf) ≤ (((kS s 13 (s.1 8 6).toNatClampNeg (am_nar 1 (0 : Int32))).1 8 6) + (1 : Int32)))) _ _ from rfl).trans (am_lcd ?_ ?_)
      · rfl
      · rfl
    · refine (show _ = am_ri (F_X0_canGo [.inl (.ref 8), .inl (.int (s.1 12 (s.1 8 6).toNatClampNeg))] (kH nf ns rest s)) _ _ from rfl).trans ?_
      rw [e_X0_canGo (s.1 12 (s.1 8 6).toNatClampNeg) s]
      refine am_lbi (fun x2 s1 => ?_) (fun _ _ => rfl)
      refine (show _ = cond (decide (x2 = (0 : Int32))) _ _ from rfl).trans (am_lcd ?_ ?_)
      · refine (show _ = cond (am_in (s1.1 8 6) nf) _ none from rfl).trans (am_lcd (B := none) ?_ rfl)
        refine (show _ = cond (decide ((Int32.ofNat nf) ≤ (((kS s1 13 (s1.1 8 6).toNatClampNeg (am_nar 1 (0 : Int32))).1 8 6) + (1 : Int32)))) _ _ from rfl).trans (am_lcd ?_ ?_)
        · rfl
        · rfl
      · refine (show _ = am_rv (F_X0_sendOut [.inl (.ref 8), .inl (.int (s.1 12 (s.1 8 6).toNatClampNeg))] (kH nf ns rest s1)) _ _ from rfl).trans ?_
        rw [e_X0_sendOut (s.1 12 (s.1 8 6).toNatClampNeg) s1]
        refine am_lbv (fun s3 => ?_) (fun _ _ => rfl)
        refine (show _ = cond (am_in (s3.1 8 6) nf) _ none from rfl).trans (am_lcd (B := none) ?_ rfl)
        refine (show _ = cond (decide ((Int32.ofNat nf) ≤ (((kS s3 13 (s3.1 8 6).toNatClampNeg (am_nar 1 (0 : Int32))).1 8 6) + (1 : Int32)))) _ _ from rfl).trans (am_lcd ?_ ?_)
        · rfl
        · rfl
set_option maxRecDepth 20000 in
def p_X0_leastFree_12_L2 (nf ns : Nat) : Nat → Int32 → KS → KR
  | 0, _, _ => none
  | n + 1, l1, s => cond (decide ((Int32.ofNat nf) ≤ l1)) (some (.inl (some (-1 : Int32)), s)) (cond (am_in l1 nf) (cond (!decide ((s.1 12 l1.toNatClampNeg) = (-1 : Int32))) (p_X0_leastFree_12_L2 nf ns n (l1 + (1 : Int32)) s) (some (.inl (some l1), s))) none)
set_option maxRecDepth 20000 in
theorem b_X0_leastFree_12_L2 {nf ns : Nat} {rest : am_H} (n : Nat) (ih : ∀ (l1 : Int32) (s : KS), am_lp T_X0_leastFree X_X0_leastFree 2 (some .int) am_rs0 [] [(2, [0, 1])] n 2 [(0, .inl (.ref 12)), (1, .inl (.int l1))] [] (kH nf ns rest s) (rm_X0_leastFree.cells, rm_X0_leastFree.slots) = am_lf (kH nf ns rest) (p_X0_leastFree_12_L2 nf ns n l1 s)) (f : Nat) (l1 : Int32) (s : KS) : am_go X_X0_leastFree 2 (some .int) am_rs0 [] [(2, [0, 1])] (am_lp T_X0_leastFree X_X0_leastFree 2 (some .int) am_rs0 [] [(2, [0, 1])] n) (f + 14) (am_from 2 T_X0_leastFree) [(0, .inl (.ref 12)), (1, .inl (.int l1))] [] (kH nf ns rest s) (rm_X0_leastFree.cells, rm_X0_leastFree.slots) = am_lf (kH nf ns rest) (p_X0_leastFree_12_L2 nf ns (n + 1) l1 s) := by
  rw [p_X0_leastFree_12_L2]
  refine (show _ = cond (decide ((Int32.ofNat nf) ≤ l1)) _ _ from rfl).trans (am_lcd ?_ ?_)
  · rfl
  · refine (show _ = cond (am_in l1 nf) _ none from rfl).trans (am_lcd (B := none) ?_ rfl)
    refine (show _ = cond (!decide ((s.1 12 l1.toNatClampNeg) = (-1 : Int32))) _ _ from rfl).trans (am_lcd ?_ ?_)
    · exact ih (l1 + (1 : Int32)) s
    · rfl
set_option maxRecDepth 20000 in
theorem e_X0_leastFree_12_L2 {nf ns : Nat} {rest : am_H} : ∀ (n : Nat) (l1 : Int32) (s : KS), am_lp T_X0_leastFree X_X0_leastFree 2 (some .int) am_rs0 [] [(2, [0, 1])] n 2 [(0, .inl (.ref 12)), (1, .inl (.int l1))] [] (kH nf ns rest s) (rm_X0_leastFree.cells, rm_X0_leastFree.slots) = am_lf (kH nf ns rest) (p_X0_leastFree_12_L2 nf ns n l1 s)
  | 0, _, _ => by rw [p_X0_leastFree_12_L2]; rfl
  | n + 1, l1, s => b_X0_leastFree_12_L2 n (e_X0_leastFree_12_L2 n) 986 l1 s
set_option maxRecDepth 20000 in
def p_X0_leastFree_12 (nf ns : Nat)  (s : KS) : KR := p_X0_leastFree_12_L2 nf ns 400 (0 : Int32) s
set_option maxRecDepth 20000 in
theorem e_X0_leastFree_12 {nf ns : Nat} {rest : am_H}  (s : KS) : F_X0_leastFree [.inl (.ref 12)] (kH nf ns rest s) = am_lf (kH nf ns rest) (p_X0_leastFree_12 nf ns  s) := by
  rw [p_X0_leastFree_12]
  exact b_X0_leastFree_12_L2 399 (e_X0_leastFree_12_L2 399) 984 (0 : Int32) s
set_option maxRecDepth 20000 in
def p_X0_getFrame_L17 (nf ns : Nat) : Nat → Int32 → KS → KR
  | 0, _, _ => none
  | n + 1, l2, s => cond (decide (((2 : Int32) * (Int32.ofNat nf)) ≤ l2)) (some (.inl (some (-1 : Int32)), s)) (kbi (p_X0_lookAndMoveOn nf ns  s) (fun x4 s3 => cond (decide (x4 = (0 : Int32))) (p_X0_getFrame_L17 nf ns n (l2 + (1 : Int32)) s3) (some (.inl (some (s.1 8 6)), s3))))
set_option maxRecDepth 20000 in
theorem b_X0_getFrame_L17 {nf ns : Nat} {rest : am_H} (n : Nat) (ih : ∀ (l2 : Int32) (s : KS), am_lp T_X0_getFrame X_X0_getFrame 4 (some .int) am_rs0 [] [(17, [0, 2])] n 17 [(0, .inl (.ref 8)), (2, .inl (.int l2))] [] (kH nf ns rest s) (rm_X0_getFrame.cells, rm_X0_getFrame.slots) = am_lf (kH nf ns rest) (p_X0_getFrame_L17 nf ns n l2 s)) (f : Nat) (l2 : Int32) (s : KS) : am_go X_X0_getFrame 4 (some .int) am_rs0 [] [(17, [0, 2])] (am_lp T_X0_getFrame X_X0_getFrame 4 (some .int) am_rs0 [] [(17, [0, 2])] n) (f + 18) (am_from 17 T_X0_getFrame) [(0, .inl (.ref 8)), (2, .inl (.int l2))] [] (kH nf ns rest s) (rm_X0_getFrame.cells, rm_X0_getFrame.slots) = am_lf (kH nf ns rest) (p_X0_getFrame_L17 nf ns (n + 1) l2 s) := by
  rw [p_X0_getFrame_L17]
  refine (show _ = cond (decide (((2 : Int32) * (Int32.ofNat nf)) ≤ l2)) _ _ from rfl).trans (am_lcd ?_ ?_)
  · rfl
  · refine (show _ = am_ri (F_X0_lookAndMoveOn [.inl (.ref 8)] (kH nf ns rest s)) _ _ from rfl).trans ?_
    rw [e_X0_lookAndMoveOn  s]
    refine am_lbi (fun x4 s3 => ?_) (fun _ _ => rfl)
    refine (show _ = cond (decide (x4 = (0 : Int32))) _ _ from rfl).trans (am_lcd ?_ ?_)
    · exact ih (l2 + (1 : Int32)) s3
    · rfl
set_option maxRecDepth 20000 in
theorem e_X0_getFrame_L17 {nf ns : Nat} {rest : am_H} : ∀ (n : Nat) (l2 : Int32) (s : KS), am_lp T_X0_getFrame X_X0_getFrame 4 (some .int) am_rs0 [] [(17, [0, 2])] n 17 [(0, .inl (.ref 8)), (2, .inl (.int l2))] [] (kH nf ns rest s) (rm_X0_getFrame.cells, rm_X0_getFrame.slots) = am_lf (kH nf ns rest) (p_X0_getFrame_L17 nf ns n l2 s)
  | 0, _, _ => by rw [p_X0_getFrame_L17]; rfl
  | n + 1, l2, s => b_X0_getFrame_L17 n (e_X0_getFrame_L17 n) 982 l2 s
set_option maxRecDepth 20000 in
def p_X0_getFrame (nf ns : Nat)  (s : KS) : KR := kbi (p_X0_leastFree_12 nf ns  s) (fun x2 s1 => cond (decide (x2 = (-1 : Int32))) (p_X0_getFrame_L17 nf ns 400 (0 : Int32) s1) (some (.inl (some x2), s1)))
set_option maxRecDepth 20000 in
theorem e_X0_getFrame {nf ns : Nat} {rest : am_H}  (s : KS) : F_X0_getFrame [.inl (.ref 8)] (kH nf ns rest s) = am_lf (kH nf ns rest) (p_X0_getFrame nf ns  s) := by
  rw [p_X0_getFrame]
  refine (show _ = am_ri (F_X0_leastFree [.inl (.ref 12)] (kH nf ns rest s)) _ _ from rfl).trans ?_
  rw [e_X0_leastFree_12  s]
  refine am_lbi (fun x2 s1 => ?_) (fun _ _ => rfl)
  refine (show _ = cond (decide (x2 = (-1 : Int32))) _ _ from rfl).trans (am_lcd ?_ ?_)
  · exact b_X0_getFrame_L17 399 (e_X0_getFrame_L17 399) 973 (0 : Int32) s1
  · rfl
set_option maxRecDepth 20000 in
def p_X0_settle (nf ns : Nat) (a1 : Int32) (a2 : Int32) (s : KS) : KR := cond (am_in a2 nf) (cond (am_in a1 60) (cond (am_in a2 nf) (some (.inl none, (kS (kS (kS s 12 a2.toNatClampNeg (a1)) 11 a1.toNatClampNeg (a2)) 13 a2.toNatClampNeg (am_nar 1 (1 : Int32))))) none) none) none
set_option maxRecDepth 20000 in
theorem e_X0_settle {nf ns : Nat} {rest : am_H} (a1 : Int32) (a2 : Int32) (s : KS) : F_X0_settle [.inl (.ref 8), .inl (.int a1), .inl (.int a2)] (kH nf ns rest s) = am_lf (kH nf ns rest) (p_X0_settle nf ns a1 a2 s) := by
  rw [p_X0_settle]
  refine (show _ = cond (am_in a2 nf) _ none from rfl).trans (am_lcd (B := none) ?_ rfl)
  refine (show _ = cond (am_in a1 60) _ none from rfl).trans (am_lcd (B := none) ?_ rfl)
  refine (show _ = cond (am_in a2 nf) _ none from rfl).trans (am_lcd (B := none) ?_ rfl)
  rfl
set_option maxRecDepth 20000 in
def p_X0_touch (nf ns : Nat) (a1 : Int32) (s : KS) : KR := kbi (p_X0_isIn nf ns a1 s) (fun x2 s1 => cond (decide (x2 = (0 : Int32))) (kbi (p_X0_getFrame nf ns  s1) (fun x4 s3 => cond (!decide (x4 = (-1 : Int32))) (kbv (p_X0_vacate nf ns a1 s3) (fun s5 => kbv (p_X0_settle nf ns a1 x4 s5) (fun s6 => some (.inl (some (1 : Int32)), (kS s6 8 7 ((s6.1 8 7) + (1 : Int32))))))) (some (.inl (some (0 : Int32)), s3)))) (cond (am_in a1 60) (cond (am_in (s1.1 11 a1.toNatClampNeg) nf) (some (.inl (some (1 : Int32)), (kS s1 13 (s1.1 11 a1.toNatClampNeg).toNatClampNeg (am_nar 1 (1 : Int32))))) none) none))
set_option maxRecDepth 20000 in
theorem e_X0_touch {nf ns : Nat} {rest : am_H} (a1 : Int32) (s : KS) : F_X0_touch [.inl (.ref 8), .inl (.int a1)] (kH nf ns rest s) = am_lf (kH nf ns rest) (p_X0_touch nf ns a1 s) := by
  rw [p_X0_touch]
  refine (show _ = am_ri (F_X0_isIn [.inl (.ref 8), .inl (.int a1)] (kH nf ns rest s)) _ _ from rfl).trans ?_
  rw [e_X0_isIn a1 s]
  refine am_lbi (fun x2 s1 => ?_) (fun _ _ => rfl)
  refine (show _ = cond (decide (x2 = (0 : Int32))) _ _ from rfl).trans (am_lcd ?_ ?_)
  · refine (show _ = am_ri (F_X0_getFrame [.inl (.ref 8)] (kH nf ns rest s1)) _ _ from rfl).trans ?_
    rw [e_X0_getFrame  s1]
    refine am_lbi (fun x4 s3 => ?_) (fun _ _ => rfl)
    refine (show _ = cond (!decide (x4 = (-1 : Int32))) _ _ from rfl).trans (am_lcd ?_ ?_)
    · refine (show _ = am_rv (F_X0_vacate [.inl (.ref 8), .inl (.int a1)] (kH nf ns rest s3)) _ _ from rfl).trans ?_
      rw [e_X0_vacate a1 s3]
      refine am_lbv (fun s5 => ?_) (fun _ _ => rfl)
      refine (show _ = am_rv (F_X0_settle [.inl (.ref 8), .inl (.int a1), .inl (.int x4)] (kH nf ns rest s5)) _ _ from rfl).trans ?_
      rw [e_X0_settle a1 x4 s5]
      refine am_lbv (fun s6 => ?_) (fun _ _ => rfl)
      rfl
    · rfl
  · refine (show _ = cond (am_in a1 60) _ none from rfl).trans (am_lcd (B := none) ?_ rfl)
    refine (show _ = cond (am_in (s1.1 11 a1.toNatClampNeg) nf) _ none from rfl).trans (am_lcd (B := none) ?_ rfl)
    rfl
set_option maxRecDepth 20000 in
def p_X0_wordOf (nf ns : Nat) (a1 : Int32) (a2 : Int32) (s : KS) : KR := cond (am_in ((a1 * (4 : Int32)) + a2) 240) (some (.inl (some (s.1 9 ((a1 * (4 : Int32)) + a2).toNatClampNeg)), s)) none
set_option maxRecDepth 20000 in
theorem e_X0_wordOf {nf ns : Nat} {rest : am_H} (a1 : Int32) (a2 : Int32) (s : KS) : F_X0_wordOf [.inl (.ref 8), .inl (.int a1), .inl (.int a2)] (kH nf ns rest s) = am_lf (kH nf ns rest) (p_X0_wordOf nf ns a1 a2 s) := by
  rw [p_X0_wordOf]
  refine (show _ = cond (am_in ((a1 * (4 : Int32)) + a2) 240) _ none from rfl).trans (am_lcd (B := none) ?_ rfl)
  rfl
set_option maxRecDepth 20000 in
def p_X0_touchOwn (nf ns : Nat) (a1 : Int32) (s : KS) : KR := kbi (p_X0_touch nf ns a1 s) (fun x2 s1 => cond (!decide (x2 = (0 : Int32))) (cond (am_in a1 60) (cond (!decide ((s1.1 10 a1.toNatClampNeg) = (1 : Int32))) (kbi (p_X0_getFrame nf ns  s1) (fun x4 s3 => cond (!decide (x4 = (-1 : Int32))) (kbi (p_X0_newPage nf ns  s3) (fun x6 s5 => cond (!decide ((a1 * (4 : Int32)) < 0) && (!decide ((x6 * (4 : Int32)) < 0) && (!decide ((4 : Int32) < 0) && (decide ((a1 * (4 : Int32)).toNatClampNeg + (4 : Int32).toNatClampNeg ≤ 240) && decide ((x6 * (4 : Int32)).toNatClampNeg + (4 : Int32).toNatClampNeg ≤ 240))))) (kbv (p_X0_settle nf ns x6 x4 (kC s5 9 (a1 * (4 : Int32)).toNatClampNeg (x6 * (4 : Int32)).toNatClampNeg (4 : Int32).toNatClampNeg)) (fun s7 => kbv (p_X0_leave nf ns a1 (kS s7 8 8 ((s7.1 8 8) + (1 : Int32)))) (fun s8 => some (.inl (some x6), s8)))) none)) (some (.inl (some (-1 : Int32)), s3)))) (some (.inl (some a1), s1))) none) (some (.inl (some (-1 : Int32)), s1)))
set_option maxRecDepth 20000 in
theorem e_X0_touchOwn {nf ns : Nat} {rest : am_H} (a1 : Int32) (s : KS) : F_X0_touchOwn [.inl (.ref 8), .inl (.int a1)] (kH nf ns rest s) = am_lf (kH nf ns rest) (p_X0_touchOwn nf ns a1 s) := by
  rw [p_X0_touchOwn]
  refine (show _ = am_ri (F_X0_touch [.inl (.ref 8), .inl (.int a1)] (kH nf ns rest s)) _ _ from rfl).trans ?_
  rw [e_X0_touch a1 s]
  refine am_lbi (fun x2 s1 => ?_) (fun _ _ => rfl)
  refine (show _ = cond (!decide (x2 = (0 : Int32))) _ _ from rfl).trans (am_lcd ?_ ?_)
  · refine (show _ = cond (am_in a1 60) _ none from rfl).trans (am_lcd (B := none) ?_ rfl)
    refine (show _ = cond (!decide ((s1.1 10 a1.toNatClampNeg) = (1 : Int32))) _ _ from rfl).trans (am_lcd ?_ ?_)
    · refine (show _ = am_ri (F_X0_getFrame [.inl (.ref 8)] (kH nf ns rest s1)) _ _ from rfl).trans ?_
      rw [e_X0_getFrame  s1]
      refine am_lbi (fun x4 s3 => ?_) (fun _ _ => rfl)
      refine (show _ = cond (!decide (x4 = (-1 : Int32))) _ _ from rfl).trans (am_lcd ?_ ?_)
      · refine (show _ = am_ri (F_X0_newPage [.inl (.ref 8)] (kH nf ns rest s3)) _ _ from rfl).trans ?_
        rw [e_X0_newPage  s3]
        refine am_lbi (fun x6 s5 => ?_) (fun _ _ => rfl)
        refine (show _ = cond (!decide ((a1 * (4 : Int32)) < 0) && (!decide ((x6 * (4 : Int32)) < 0) && (!decide ((4 : Int32) < 0) && (decide ((a1 * (4 : Int32)).toNatClampNeg + (4 : Int32).toNatClampNeg ≤ 240) && decide ((x6 * (4 : Int32)).toNatClampNeg + (4 : Int32).toNatClampNeg ≤ 240))))) _ none from rfl).trans (am_lcd (B := none) ?_ rfl)
        refine (show _ = am_rv (F_X0_settle [.inl (.ref 8), .inl (.int x6), .inl (.int x4)] (kH nf ns rest (kC s5 9 (a1 * (4 : Int32)).toNatClampNeg (x6 * (4 : Int32)).toNatClampNeg (4 : Int32).toNatClampNeg))) _ _ from rfl).trans ?_
        rw [e_X0_settle x6 x4 (kC s5 9 (a1 * (4 : Int32)).toNatClampNeg (x6 * (4 : Int32)).toNatClampNeg (4 : Int32).toNatClampNeg)]
        refine am_lbv (fun s7 => ?_) (fun _ _ => rfl)
        refine (show _ = am_rv (F_X0_leave [.inl (.ref 8), .inl (.int a1)] (kH nf ns rest (kS s7 8 8 ((s7.1 8 8) + (1 : Int32))))) _ _ from rfl).trans ?_
        rw [e_X0_leave a1 (kS s7 8 8 ((s7.1 8 8) + (1 : Int32)))]
        refine am_lbv (fun s8 => ?_) (fun _ _ => rfl)
        rfl
      · rfl
    · rfl
  · rfl
set_option maxRecDepth 20000 in
def p_X0_replaceWord (nf ns : Nat) (a1 : Int32) (a2 : Int32) (a3 : Int32) (s : KS) : KR := cond (am_in ((a1 * (4 : Int32)) + a2) 240) (cond (am_in ((a1 * (4 : Int32)) + a2) 240) (some (.inl (some (s.1 9 ((a1 * (4 : Int32)) + a2).toNatClampNeg)), (kS s 9 ((a1 * (4 : Int32)) + a2).toNatClampNeg (a3)))) none) none
set_option maxRecDepth 20000 in
theorem e_X0_replaceWord {nf ns : Nat} {rest : am_H} (a1 : Int32) (a2 : Int32) (a3 : Int32) (s : KS) : F_X0_replaceWord [.inl (.ref 8), .inl (.int a1), .inl (.int a2), .inl (.int a3)] (kH nf ns rest s) = am_lf (kH nf ns rest) (p_X0_replaceWord nf ns a1 a2 a3 s) := by
  rw [p_X0_replaceWord]
  refine (show _ = cond (am_in ((a1 * (4 : Int32)) + a2) 240) _ none from rfl).trans (am_lcd (B := none) ?_ rfl)
  refine (show _ = cond (am_in ((a1 * (4 : Int32)) + a2) 240) _ none from rfl).trans (am_lcd (B := none) ?_ rfl)
  rfl
set_option maxRecDepth 20000 in
def p_X0_sendOutIfUnshared (nf ns : Nat) (a1 : Int32) (s : KS) : KR := kbi (p_X0_isIn nf ns a1 s) (fun x2 s1 => cond (decide (x2 = (0 : Int32))) (some (.inl (some (0 : Int32)), s1)) (cond (am_in a1 60) (cond (!decide ((s1.1 10 a1.toNatClampNeg) = (1 : Int32))) (some (.inl (some (0 : Int32)), s1)) (kbi (p_X0_canGo nf ns a1 s1) (fun x4 s3 => cond (decide (x4 = (0 : Int32))) (some (.inl (some (0 : Int32)), s3)) (kbv (p_X0_sendOut nf ns a1 s3) (fun s5 => some (.inl (some (1 : Int32)), s5)))))) none))
set_option maxRecDepth 20000 in
theorem e_X0_sendOutIfUnshared {nf ns : Nat} {rest : am_H} (a1 : Int32) (s : KS) : F_X0_sendOutIfUnshared [.inl (.ref 8), .inl (.int a1)] (kH nf ns rest s) = am_lf (kH nf ns rest) (p_X0_sendOutIfUnshared nf ns a1 s) := by
  rw [p_X0_sendOutIfUnshared]
  refine (show _ = am_ri (F_X0_isIn [.inl (.ref 8), .inl (.int a1)] (kH nf ns rest s)) _ _ from rfl).trans ?_
  rw [e_X0_isIn a1 s]
  refine am_lbi (fun x2 s1 => ?_) (fun _ _ => rfl)
  refine (show _ = cond (decide (x2 = (0 : Int32))) _ _ from rfl).trans (am_lcd ?_ ?_)
  · rfl
  · refine (show _ = cond (am_in a1 60) _ none from rfl).trans (am_lcd (B := none) ?_ rfl)
    refine (show _ = cond (!decide ((s1.1 10 a1.toNatClampNeg) = (1 : Int32))) _ _ from rfl).trans (am_lcd ?_ ?_)
    · rfl
    · refine (show _ = am_ri (F_X0_canGo [.inl (.ref 8), .inl (.int a1)] (kH nf ns rest s1)) _ _ from rfl).trans ?_
      rw [e_X0_canGo a1 s1]
      refine am_lbi (fun x4 s3 => ?_) (fun _ _ => rfl)
      refine (show _ = cond (decide (x4 = (0 : Int32))) _ _ from rfl).trans (am_lcd ?_ ?_)
      · rfl
      · refine (show _ = am_rv (F_X0_sendOut [.inl (.ref 8), .inl (.int a1)] (kH nf ns rest s3)) _ _ from rfl).trans ?_
        rw [e_X0_sendOut a1 s3]
        refine am_lbv (fun s5 => ?_) (fun _ _ => rfl)
        rfl
set_option maxRecDepth 20000 in
def p_X0_homeOf (nf ns : Nat) (a1 : Int32) (s : KS) : KR := cond (am_in a1 60) (some (.inl (some (s.1 11 a1.toNatClampNeg)), s)) none
set_option maxRecDepth 20000 in
theorem e_X0_homeOf {nf ns : Nat} {rest : am_H} (a1 : Int32) (s : KS) : F_X0_homeOf [.inl (.ref 8), .inl (.int a1)] (kH nf ns rest s) = am_lf (kH nf ns rest) (p_X0_homeOf nf ns a1 s) := by
  rw [p_X0_homeOf]
  refine (show _ = cond (am_in a1 60) _ none from rfl).trans (am_lcd (B := none) ?_ rfl)
  rfl
set_option maxRecDepth 20000 in
def p_X0_usersOf (nf ns : Nat) (a1 : Int32) (s : KS) : KR := cond (am_in a1 60) (some (.inl (some (s.1 10 a1.toNatClampNeg)), s)) none
set_option maxRecDepth 20000 in
theorem e_X0_usersOf {nf ns : Nat} {rest : am_H} (a1 : Int32) (s : KS) : F_X0_usersOf [.inl (.ref 8), .inl (.int a1)] (kH nf ns rest s) = am_lf (kH nf ns rest) (p_X0_usersOf nf ns a1 s) := by
  rw [p_X0_usersOf]
  refine (show _ = cond (am_in a1 60) _ none from rfl).trans (am_lcd (B := none) ?_ rfl)
  rfl
set_option maxRecDepth 20000 in
def p_X0_howManyFree_12_L4 (nf ns : Nat) : Nat → Int32 → Int32 → KS → KR
  | 0, _, _, _ => none
  | n + 1, l1, l2, s => cond (decide ((Int32.ofNat nf) ≤ l2)) (some (.inl (some l1), s)) (cond (am_in l2 nf) (cond (!decide ((s.1 12 l2.toNatClampNeg) = (-1 : Int32))) (p_X0_howManyFree_12_L4 nf ns n l1 (l2 + (1 : Int32)) s) (p_X0_howManyFree_12_L4 nf ns n (l1 + (1 : Int32)) (l2 + (1 : Int32)) s)) none)
set_option maxRecDepth 20000 in
theorem b_X0_howManyFree_12_L4 {nf ns : Nat} {rest : am_H} (n : Nat) (ih : ∀ (l1 : Int32) (l2 : Int32) (s : KS), am_lp T_X0_howManyFree X_X0_howManyFree 3 (some .int) am_rs0 [] [(4, [0, 1, 2])] n 4 [(0, .inl (.ref 12)), (1, .inl (.int l1)), (2, .inl (.int l2))] [] (kH nf ns rest s) (rm_X0_howManyFree.cells, rm_X0_howManyFree.slots) = am_lf (kH nf ns rest) (p_X0_howManyFree_12_L4 nf ns n l1 l2 s)) (f : Nat) (l1 : Int32) (l2 : Int32) (s : KS) : am_go X_X0_howManyFree 3 (some .int) am_rs0 [] [(4, [0, 1, 2])] (am_lp T_X0_howManyFree X_X0_howManyFree 3 (some .int) am_rs0 [] [(4, [0, 1, 2])] n) (f + 15) (am_from 4 T_X0_howManyFree) [(0, .inl (.ref 12)), (1, .inl (.int l1)), (2, .inl (.int l2))] [] (kH nf ns rest s) (rm_X0_howManyFree.cells, rm_X0_howManyFree.slots) = am_lf (kH nf ns rest) (p_X0_howManyFree_12_L4 nf ns (n + 1) l1 l2 s) := by
  rw [p_X0_howManyFree_12_L4]
  refine (show _ = cond (decide ((Int32.ofNat nf) ≤ l2)) _ _ from rfl).trans (am_lcd ?_ ?_)
  · rfl
  · refine (show _ = cond (am_in l2 nf) _ none from rfl).trans (am_lcd (B := none) ?_ rfl)
    refine (show _ = cond (!decide ((s.1 12 l2.toNatClampNeg) = (-1 : Int32))) _ _ from rfl).trans (am_lcd ?_ ?_)
    · exact ih l1 (l2 + (1 : Int32)) s
    · exact ih (l1 + (1 : Int32)) (l2 + (1 : Int32)) s
set_option maxRecDepth 20000 in
theorem e_X0_howManyFree_12_L4 {nf ns : Nat} {rest : am_H} : ∀ (n : Nat) (l1 : Int32) (l2 : Int32) (s : KS), am_lp T_X0_howManyFree X_X0_howManyFree 3 (some .int) am_rs0 [] [(4, [0, 1, 2])] n 4 [(0, .inl (.ref 12)), (1, .inl (.int l1)), (2, .inl (.int l2))] [] (kH nf ns rest s) (rm_X0_howManyFree.cells, rm_X0_howManyFree.slots) = am_lf (kH nf ns rest) (p_X0_howManyFree_12_L4 nf ns n l1 l2 s)
  | 0, _, _, _ => by rw [p_X0_howManyFree_12_L4]; rfl
  | n + 1, l1, l2, s => b_X0_howManyFree_12_L4 n (e_X0_howManyFree_12_L4 n) 985 l1 l2 s
set_option maxRecDepth 20000 in
def p_X0_howManyFree_12 (nf ns : Nat)  (s : KS) : KR := p_X0_howManyFree_12_L4 nf ns 400 (0 : Int32) (0 : Int32) s
set_option maxRecDepth 20000 in
theorem e_X0_howManyFree_12 {nf ns : Nat} {rest : am_H}  (s : KS) : F_X0_howManyFree [.inl (.ref 12)] (kH nf ns rest s) = am_lf (kH nf ns rest) (p_X0_howManyFree_12 nf ns  s) := by
  rw [p_X0_howManyFree_12]
  exact b_X0_howManyFree_12_L4 399 (e_X0_howManyFree_12_L4 399) 981 (0 : Int32) (0 : Int32) s
set_option maxRecDepth 20000 in
def p_X0_freeFrames (nf ns : Nat)  (s : KS) : KR := kbi (p_X0_howManyFree_12 nf ns  s) (fun x2 s1 => some (.inl (some x2), s1))
set_option maxRecDepth 20000 in
theorem e_X0_freeFrames {nf ns : Nat} {rest : am_H}  (s : KS) : F_X0_freeFrames [.inl (.ref 8)] (kH nf ns rest s) = am_lf (kH nf ns rest) (p_X0_freeFrames nf ns  s) := by
  rw [p_X0_freeFrames]
  refine (show _ = am_ri (F_X0_howManyFree [.inl (.ref 12)] (kH nf ns rest s)) _ _ from rfl).trans ?_
  rw [e_X0_howManyFree_12  s]
  refine am_lbi (fun x2 s1 => ?_) (fun _ _ => rfl)
  rfl
set_option maxRecDepth 20000 in
def p_X0_howManyFree_14_L4 (nf ns : Nat) : Nat → Int32 → Int32 → KS → KR
  | 0, _, _, _ => none
  | n + 1, l1, l2, s => cond (decide ((Int32.ofNat ns) ≤ l2)) (some (.inl (some l1), s)) (cond (am_in l2 ns) (cond (!decide ((s.1 14 l2.toNatClampNeg) = (-1 : Int32))) (p_X0_howManyFree_14_L4 nf ns n l1 (l2 + (1 : Int32)) s) (p_X0_howManyFree_14_L4 nf ns n (l1 + (1 : Int32)) (l2 + (1 : Int32)) s)) none)
set_option maxRecDepth 20000 in
theorem b_X0_howManyFree_14_L4 {nf ns : Nat} {rest : am_H} (n : Nat) (ih : ∀ (l1 : Int32) (l2 : Int32) (s : KS), am_lp T_X0_howManyFree X_X0_howManyFree 3 (some .int) am_rs0 [] [(4, [0, 1, 2])] n 4 [(0, .inl (.ref 14)), (1, .inl (.int l1)), (2, .inl (.int l2))] [] (kH nf ns rest s) (rm_X0_howManyFree.cells, rm_X0_howManyFree.slots) = am_lf (kH nf ns rest) (p_X0_howManyFree_14_L4 nf ns n l1 l2 s)) (f : Nat) (l1 : Int32) (l2 : Int32) (s : KS) : am_go X_X0_howManyFree 3 (some .int) am_rs0 [] [(4, [0, 1, 2])] (am_lp T_X0_howManyFree X_X0_howManyFree 3 (some .int) am_rs0 [] [(4, [0, 1, 2])] n) (f + 15) (am_from 4 T_X0_howManyFree) [(0, .inl (.ref 14)), (1, .inl (.int l1)), (2, .inl (.int l2))] [] (kH nf ns rest s) (rm_X0_howManyFree.cells, rm_X0_howManyFree.slots) = am_lf (kH nf ns rest) (p_X0_howManyFree_14_L4 nf ns (n + 1) l1 l2 s) := by
  rw [p_X0_howManyFree_14_L4]
  refine (show _ = cond (decide ((Int32.ofNat ns) ≤ l2)) _ _ from rfl).trans (am_lcd ?_ ?_)
  · rfl
  · refine (show _ = cond (am_in l2 ns) _ none from rfl).trans (am_lcd (B := none) ?_ rfl)
    refine (show _ = cond (!decide ((s.1 14 l2.toNatClampNeg) = (-1 : Int32))) _ _ from rfl).trans (am_lcd ?_ ?_)
    · exact ih l1 (l2 + (1 : Int32)) s
    · exact ih (l1 + (1 : Int32)) (l2 + (1 : Int32)) s
set_option maxRecDepth 20000 in
theorem e_X0_howManyFree_14_L4 {nf ns : Nat} {rest : am_H} : ∀ (n : Nat) (l1 : Int32) (l2 : Int32) (s : KS), am_lp T_X0_howManyFree X_X0_howManyFree 3 (some .int) am_rs0 [] [(4, [0, 1, 2])] n 4 [(0, .inl (.ref 14)), (1, .inl (.int l1)), (2, .inl (.int l2))] [] (kH nf ns rest s) (rm_X0_howManyFree.cells, rm_X0_howManyFree.slots) = am_lf (kH nf ns rest) (p_X0_howManyFree_14_L4 nf ns n l1 l2 s)
  | 0, _, _, _ => by rw [p_X0_howManyFree_14_L4]; rfl
  | n + 1, l1, l2, s => b_X0_howManyFree_14_L4 n (e_X0_howManyFree_14_L4 n) 985 l1 l2 s
set_option maxRecDepth 20000 in
def p_X0_howManyFree_14 (nf ns : Nat)  (s : KS) : KR := p_X0_howManyFree_14_L4 nf ns 400 (0 : Int32) (0 : Int32) s
set_option maxRecDepth 20000 in
theorem e_X0_howManyFree_14 {nf ns : Nat} {rest : am_H}  (s : KS) : F_X0_howManyFree [.inl (.ref 14)] (kH nf ns rest s) = am_lf (kH nf ns rest) (p_X0_howManyFree_14 nf ns  s) := by
  rw [p_X0_howManyFree_14]
  exact b_X0_howManyFree_14_L4 399 (e_X0_howManyFree_14_L4 399) 981 (0 : Int32) (0 : Int32) s
set_option maxRecDepth 20000 in
def p_X0_freeSlots (nf ns : Nat)  (s : KS) : KR := kbi (p_X0_howManyFree_14 nf ns  s) (fun x2 s1 => some (.inl (some x2), s1))
set_option maxRecDepth 20000 in
theorem e_X0_freeSlots {nf ns : Nat} {rest : am_H}  (s : KS) : F_X0_freeSlots [.inl (.ref 8)] (kH nf ns rest s) = am_lf (kH nf ns rest) (p_X0_freeSlots nf ns  s) := by
  rw [p_X0_freeSlots]
  refine (show _ = am_ri (F_X0_howManyFree [.inl (.ref 14)] (kH nf ns rest s)) _ _ from rfl).trans ?_
  rw [e_X0_howManyFree_14  s]
  refine am_lbi (fun x2 s1 => ?_) (fun _ _ => rfl)
  rfl
set_option maxRecDepth 20000 in
def p_X0_markOf (nf ns : Nat) (a1 : Int32) (s : KS) : KR := cond (decide ((Int32.ofNat nf) ≤ a1)) (some (.inl (some (-1 : Int32)), s)) (cond (am_in a1 nf) (cond (!decide ((s.1 12 a1.toNatClampNeg) = (-1 : Int32))) (cond (am_in a1 nf) (cond (decide ((s.1 13 a1.toNatClampNeg) = (0 : Int32))) (some (.inl (some (0 : Int32)), s)) (some (.inl (some (1 : Int32)), s))) none) (some (.inl (some (-1 : Int32)), s))) none)
set_option maxRecDepth 20000 in
theorem e_X0_markOf {nf ns : Nat} {rest : am_H} (a1 : Int32) (s : KS) : F_X0_markOf [.inl (.ref 8), .inl (.int a1)] (kH nf ns rest s) = am_lf (kH nf ns rest) (p_X0_markOf nf ns a1 s) := by
  rw [p_X0_markOf]
  refine (show _ = cond (decide ((Int32.ofNat nf) ≤ a1)) _ _ from rfl).trans (am_lcd ?_ ?_)
  · rfl
  · refine (show _ = cond (am_in a1 nf) _ none from rfl).trans (am_lcd (B := none) ?_ rfl)
    refine (show _ = cond (!decide ((s.1 12 a1.toNatClampNeg) = (-1 : Int32))) _ _ from rfl).trans (am_lcd ?_ ?_)
    · refine (show _ = cond (am_in a1 nf) _ none from rfl).trans (am_lcd (B := none) ?_ rfl)
      refine (show _ = cond (decide ((s.1 13 a1.toNatClampNeg) = (0 : Int32))) _ _ from rfl).trans (am_lcd ?_ ?_)
      · rfl
      · rfl
    · rfl
end
