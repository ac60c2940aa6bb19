section
-- ===== PART A: goes FIRST, ahead of the names: the tables' words, and 'selects' of the private methods out of them =====
/-- a private method of a class that the tables say can be made, by its rows of tables_1 -/
def lw_okq (q : MethodName × Nat) : Prop := (q.1.cls ≠ "java/lang/invoke/MethodHandle" ∧ q.1.cls ≠ "java/lang/invoke/VarHandle") ∧ Cond.instantiable q.1.cls q.2 ∈ tables_1 ∧ Cond.privateMethod q.1 ∈ tables_1 ∧ Cond.instanceMethod q.1 ∈ tables_1
theorem lw_p0 : lw_okq (⟨"TenantHost$Program", "isSound", "()Z"⟩, 7) := ⟨⟨by decide +kernel, by decide +kernel⟩, List.mem_of_getElem? (i := 31) (by decide +kernel), List.mem_of_getElem? (i := 234) (by decide +kernel), List.mem_of_getElem? (i := 235) (by decide +kernel)⟩
theorem lw_p1 : lw_okq (⟨"TenantHost$Program", "reach", "(II)Z"⟩, 7) := ⟨⟨by decide +kernel, by decide +kernel⟩, List.mem_of_getElem? (i := 31) (by decide +kernel), List.mem_of_getElem? (i := 241) (by decide +kernel), List.mem_of_getElem? (i := 242) (by decide +kernel)⟩
theorem lw_p2 : lw_okq (⟨"TenantHost$Program", "has", "(I)Z"⟩, 7) := ⟨⟨by decide +kernel, by decide +kernel⟩, List.mem_of_getElem? (i := 31) (by decide +kernel), List.mem_of_getElem? (i := 245) (by decide +kernel), List.mem_of_getElem? (i := 246) (by decide +kernel)⟩
theorem lw_p3 : lw_okq (⟨"TenantHost$Program", "goOnFrom", "(I)Z"⟩, 7) := ⟨⟨by decide +kernel, by decide +kernel⟩, List.mem_of_getElem? (i := 31) (by decide +kernel), List.mem_of_getElem? (i := 249) (by decide +kernel), List.mem_of_getElem? (i := 250) (by decide +kernel)⟩
theorem lw_p4 : lw_okq (⟨"TenantHost", "isSharedOrNone", "(I)Z"⟩, 5) := ⟨⟨by decide +kernel, by decide +kernel⟩, List.mem_of_getElem? (i := 14) (by decide +kernel), List.mem_of_getElem? (i := 287) (by decide +kernel), List.mem_of_getElem? (i := 288) (by decide +kernel)⟩
theorem lw_p5 : lw_okq (⟨"TenantHost", "reservedCells", "()I"⟩, 5) := ⟨⟨by decide +kernel, by decide +kernel⟩, List.mem_of_getElem? (i := 14) (by decide +kernel), List.mem_of_getElem? (i := 309) (by decide +kernel), List.mem_of_getElem? (i := 310) (by decide +kernel)⟩
theorem lw_p6 : lw_okq (⟨"TenantHost", "begin", "(LTenantHost$Tenant;I)Z"⟩, 5) := ⟨⟨by decide +kernel, by decide +kernel⟩, List.mem_of_getElem? (i := 14) (by decide +kernel), List.mem_of_getElem? (i := 321) (by decide +kernel), List.mem_of_getElem? (i := 322) (by decide +kernel)⟩
theorem lw_p7 : lw_okq (⟨"TenantHost", "doSlice", "(LTenantHost$Tenant;)V"⟩, 5) := ⟨⟨by decide +kernel, by decide +kernel⟩, List.mem_of_getElem? (i := 14) (by decide +kernel), List.mem_of_getElem? (i := 344) (by decide +kernel), List.mem_of_getElem? (i := 345) (by decide +kernel)⟩
theorem lw_p8 : lw_okq (⟨"TenantHost", "end", "(LTenantHost$Tenant;I)V"⟩, 5) := ⟨⟨by decide +kernel, by decide +kernel⟩, List.mem_of_getElem? (i := 14) (by decide +kernel), List.mem_of_getElem? (i := 352) (by decide +kernel), List.mem_of_getElem? (i := 353) (by decide +kernel)⟩
theorem lw_p9 : lw_okq (⟨"TenantHost", "mustWait", "(LTenantHost$Tenant;)Z"⟩, 5) := ⟨⟨by decide +kernel, by decide +kernel⟩, List.mem_of_getElem? (i := 14) (by decide +kernel), List.mem_of_getElem? (i := 369) (by decide +kernel), List.mem_of_getElem? (i := 370) (by decide +kernel)⟩
theorem lw_p10 : lw_okq (⟨"TenantHost", "doInstruction", "(LTenantHost$Tenant;)V"⟩, 5) := ⟨⟨by decide +kernel, by decide +kernel⟩, List.mem_of_getElem? (i := 14) (by decide +kernel), List.mem_of_getElem? (i := 377) (by decide +kernel), List.mem_of_getElem? (i := 378) (by decide +kernel)⟩
theorem lw_p11 : lw_okq (⟨"TenantHost", "divide", "(LTenantHost$Tenant;)V"⟩, 5) := ⟨⟨by decide +kernel, by decide +kernel⟩, List.mem_of_getElem? (i := 14) (by decide +kernel), List.mem_of_getElem? (i := 409) (by decide +kernel), List.mem_of_getElem? (i := 410) (by decide +kernel)⟩
theorem lw_p12 : lw_okq (⟨"TenantHost", "makeCell", "(LTenantHost$Tenant;)V"⟩, 5) := ⟨⟨by decide +kernel, by decide +kernel⟩, List.mem_of_getElem? (i := 14) (by decide +kernel), List.mem_of_getElem? (i := 418) (by decide +kernel), List.mem_of_getElem? (i := 419) (by decide +kernel)⟩
theorem lw_p13 : lw_okq (⟨"TenantHost", "getPart", "(LTenantHost$Tenant;I)V"⟩, 5) := ⟨⟨by decide +kernel, by decide +kernel⟩, List.mem_of_getElem? (i := 14) (by decide +kernel), List.mem_of_getElem? (i := 469) (by decide +kernel), List.mem_of_getElem? (i := 470) (by decide +kernel)⟩
theorem lw_p14 : lw_okq (⟨"TenantHost", "setPart", "(LTenantHost$Tenant;I)V"⟩, 5) := ⟨⟨by decide +kernel, by decide +kernel⟩, List.mem_of_getElem? (i := 14) (by decide +kernel), List.mem_of_getElem? (i := 477) (by decide +kernel), List.mem_of_getElem? (i := 478) (by decide +kernel)⟩
theorem lw_p15 : lw_okq (⟨"TenantHost", "putOut", "(LTenantHost$Tenant;)V"⟩, 5) := ⟨⟨by decide +kernel, by decide +kernel⟩, List.mem_of_getElem? (i := 14) (by decide +kernel), List.mem_of_getElem? (i := 487) (by decide +kernel), List.mem_of_getElem? (i := 488) (by decide +kernel)⟩
def lw_privs_1 : List (MethodName × Nat) := [(⟨"TenantHost$Program", "isSound", "()Z"⟩, 7), (⟨"TenantHost$Program", "reach", "(II)Z"⟩, 7), (⟨"TenantHost$Program", "has", "(I)Z"⟩, 7), (⟨"TenantHost$Program", "goOnFrom", "(I)Z"⟩, 7), (⟨"TenantHost", "isSharedOrNone", "(I)Z"⟩, 5), (⟨"TenantHost", "reservedCells", "()I"⟩, 5), (⟨"TenantHost", "begin", "(LTenantHost$Tenant;I)Z"⟩, 5), (⟨"TenantHost", "doSlice", "(LTenantHost$Tenant;)V"⟩, 5), (⟨"TenantHost", "end", "(LTenantHost$Tenant;I)V"⟩, 5), (⟨"TenantHost", "mustWait", "(LTenantHost$Tenant;)Z"⟩, 5), (⟨"TenantHost", "doInstruction", "(LTenantHost$Tenant;)V"⟩, 5), (⟨"TenantHost", "divide", "(LTenantHost$Tenant;)V"⟩, 5), (⟨"TenantHost", "makeCell", "(LTenantHost$Tenant;)V"⟩, 5), (⟨"TenantHost", "getPart", "(LTenantHost$Tenant;I)V"⟩, 5), (⟨"TenantHost", "setPart", "(LTenantHost$Tenant;I)V"⟩, 5), (⟨"TenantHost", "putOut", "(LTenantHost$Tenant;)V"⟩, 5)]
theorem lw_r1 : ∀ q ∈ lw_privs_1, lw_okq q := List.forall_mem_cons.mpr ⟨lw_p0, List.forall_mem_cons.mpr ⟨lw_p1, List.forall_mem_cons.mpr ⟨lw_p2, List.forall_mem_cons.mpr ⟨lw_p3, List.forall_mem_cons.mpr ⟨lw_p4, List.forall_mem_cons.mpr ⟨lw_p5, List.forall_mem_cons.mpr ⟨lw_p6, List.forall_mem_cons.mpr ⟨lw_p7, List.forall_mem_cons.mpr ⟨lw_p8, List.forall_mem_cons.mpr ⟨lw_p9, List.forall_mem_cons.mpr ⟨lw_p10, List.forall_mem_cons.mpr ⟨lw_p11, List.forall_mem_cons.mpr ⟨lw_p12, List.forall_mem_cons.mpr ⟨lw_p13, List.forall_mem_cons.mpr ⟨lw_p14, List.forall_mem_cons.mpr ⟨lw_p15, fun _ h => absurd h List.not_mem_nil⟩⟩⟩⟩⟩⟩⟩⟩⟩⟩⟩⟩⟩⟩⟩⟩
theorem lw_p16 : lw_okq (⟨"TenantHost", "sendTo", "(LTenantHost$Tenant;I)V"⟩, 5) := ⟨⟨by decide +kernel, by decide +kernel⟩, List.mem_of_getElem? (i := 14) (by decide +kernel), List.mem_of_getElem? (i := 499) (by decide +kernel), List.mem_of_getElem? (i := 500) (by decide +kernel)⟩
theorem lw_p17 : lw_okq (⟨"TenantHost", "startOther", "(LTenantHost$Tenant;I)V"⟩, 5) := ⟨⟨by decide +kernel, by decide +kernel⟩, List.mem_of_getElem? (i := 14) (by decide +kernel), List.mem_of_getElem? (i := 516) (by decide +kernel), List.mem_of_getElem? (i := 517) (by decide +kernel)⟩
theorem lw_p18 : lw_okq (⟨"TenantHost", "stopOther", "(LTenantHost$Tenant;I)V"⟩, 5) := ⟨⟨by decide +kernel, by decide +kernel⟩, List.mem_of_getElem? (i := 14) (by decide +kernel), List.mem_of_getElem? (i := 520) (by decide +kernel), List.mem_of_getElem? (i := 521) (by decide +kernel)⟩
theorem lw_p19 : lw_okq (⟨"TenantHostModel", "flows", "(II)Z"⟩, 33) := ⟨⟨by decide +kernel, by decide +kernel⟩, List.mem_of_getElem? (i := 569) (by decide +kernel), List.mem_of_getElem? (i := 693) (by decide +kernel), List.mem_of_getElem? (i := 694) (by decide +kernel)⟩
theorem lw_p20 : lw_okq (⟨"TenantHostModel", "reach", "(III)Z"⟩, 33) := ⟨⟨by decide +kernel, by decide +kernel⟩, List.mem_of_getElem? (i := 569) (by decide +kernel), List.mem_of_getElem? (i := 709) (by decide +kernel), List.mem_of_getElem? (i := 710) (by decide +kernel)⟩
theorem lw_p21 : lw_okq (⟨"TenantHostModel", "isShared", "(I)Z"⟩, 33) := ⟨⟨by decide +kernel, by decide +kernel⟩, List.mem_of_getElem? (i := 569) (by decide +kernel), List.mem_of_getElem? (i := 721) (by decide +kernel), List.mem_of_getElem? (i := 722) (by decide +kernel)⟩
theorem lw_p22 : lw_okq (⟨"TenantHostModel", "alive", "(I)Z"⟩, 33) := ⟨⟨by decide +kernel, by decide +kernel⟩, List.mem_of_getElem? (i := 569) (by decide +kernel), List.mem_of_getElem? (i := 745) (by decide +kernel), List.mem_of_getElem? (i := 746) (by decide +kernel)⟩
theorem lw_p23 : lw_okq (⟨"TenantHostModel", "end", "(II)V"⟩, 33) := ⟨⟨by decide +kernel, by decide +kernel⟩, List.mem_of_getElem? (i := 569) (by decide +kernel), List.mem_of_getElem? (i := 749) (by decide +kernel), List.mem_of_getElem? (i := 750) (by decide +kernel)⟩
theorem lw_p24 : lw_okq (⟨"TenantHostModel", "perform", "(I)Z"⟩, 33) := ⟨⟨by decide +kernel, by decide +kernel⟩, List.mem_of_getElem? (i := 569) (by decide +kernel), List.mem_of_getElem? (i := 753) (by decide +kernel), List.mem_of_getElem? (i := 754) (by decide +kernel)⟩
theorem lw_p25 : lw_okq (⟨"TenantHostModel", "value", "(II)I"⟩, 33) := ⟨⟨by decide +kernel, by decide +kernel⟩, List.mem_of_getElem? (i := 569) (by decide +kernel), List.mem_of_getElem? (i := 757) (by decide +kernel), List.mem_of_getElem? (i := 758) (by decide +kernel)⟩
theorem lw_p26 : lw_okq (⟨"TenantHostModel", "cellOp", "(III)I"⟩, 33) := ⟨⟨by decide +kernel, by decide +kernel⟩, List.mem_of_getElem? (i := 569) (by decide +kernel), List.mem_of_getElem? (i := 761) (by decide +kernel), List.mem_of_getElem? (i := 762) (by decide +kernel)⟩
theorem lw_p27 : lw_okq (⟨"TenantHostModel", "room", "(II)Z"⟩, 33) := ⟨⟨by decide +kernel, by decide +kernel⟩, List.mem_of_getElem? (i := 569) (by decide +kernel), List.mem_of_getElem? (i := 765) (by decide +kernel), List.mem_of_getElem? (i := 766) (by decide +kernel)⟩
theorem lw_p28 : lw_okq (⟨"TenantHostModel", "counted", "(IZ)I"⟩, 33) := ⟨⟨by decide +kernel, by decide +kernel⟩, List.mem_of_getElem? (i := 569) (by decide +kernel), List.mem_of_getElem? (i := 769) (by decide +kernel), List.mem_of_getElem? (i := 770) (by decide +kernel)⟩
theorem lw_p29 : lw_okq (⟨"TenantHostModel", "markLive", "(I)V"⟩, 33) := ⟨⟨by decide +kernel, by decide +kernel⟩, List.mem_of_getElem? (i := 569) (by decide +kernel), List.mem_of_getElem? (i := 773) (by decide +kernel), List.mem_of_getElem? (i := 774) (by decide +kernel)⟩
theorem lw_p30 : lw_okq (⟨"TenantHostModel", "markRoot", "(I)V"⟩, 33) := ⟨⟨by decide +kernel, by decide +kernel⟩, List.mem_of_getElem? (i := 569) (by decide +kernel), List.mem_of_getElem? (i := 777) (by decide +kernel), List.mem_of_getElem? (i := 778) (by decide +kernel)⟩
theorem lw_p31 : lw_okq (⟨"TenantHostModel", "markAll", "()V"⟩, 33) := ⟨⟨by decide +kernel, by decide +kernel⟩, List.mem_of_getElem? (i := 569) (by decide +kernel), List.mem_of_getElem? (i := 781) (by decide +kernel), List.mem_of_getElem? (i := 782) (by decide +kernel)⟩
def lw_privs_2 : List (MethodName × Nat) := [(⟨"TenantHost", "sendTo", "(LTenantHost$Tenant;I)V"⟩, 5), (⟨"TenantHost", "startOther", "(LTenantHost$Tenant;I)V"⟩, 5), (⟨"TenantHost", "stopOther", "(LTenantHost$Tenant;I)V"⟩, 5), (⟨"TenantHostModel", "flows", "(II)Z"⟩, 33), (⟨"TenantHostModel", "reach", "(III)Z"⟩, 33), (⟨"TenantHostModel", "isShared", "(I)Z"⟩, 33), (⟨"TenantHostModel", "alive", "(I)Z"⟩, 33), (⟨"TenantHostModel", "end", "(II)V"⟩, 33), (⟨"TenantHostModel", "perform", "(I)Z"⟩, 33), (⟨"TenantHostModel", "value", "(II)I"⟩, 33), (⟨"TenantHostModel", "cellOp", "(III)I"⟩, 33), (⟨"TenantHostModel", "room", "(II)Z"⟩, 33), (⟨"TenantHostModel", "counted", "(IZ)I"⟩, 33), (⟨"TenantHostModel", "markLive", "(I)V"⟩, 33), (⟨"TenantHostModel", "markRoot", "(I)V"⟩, 33), (⟨"TenantHostModel", "markAll", "()V"⟩, 33)]
theorem lw_r2 : ∀ q ∈ lw_privs_2, lw_okq q := List.forall_mem_cons.mpr ⟨lw_p16, List.forall_mem_cons.mpr ⟨lw_p17, List.forall_mem_cons.mpr ⟨lw_p18, List.forall_mem_cons.mpr ⟨lw_p19, List.forall_mem_cons.mpr ⟨lw_p20, List.forall_mem_cons.mpr ⟨lw_p21, List.forall_mem_cons.mpr ⟨lw_p22, List.forall_mem_cons.mpr ⟨lw_p23, List.forall_mem_cons.mpr ⟨lw_p24, List.forall_mem_cons.mpr ⟨lw_p25, List.forall_mem_cons.mpr ⟨lw_p26, List.forall_mem_cons.mpr ⟨lw_p27, List.forall_mem_cons.mpr ⟨lw_p28, List.forall_mem_cons.mpr ⟨lw_p29, List.forall_mem_cons.mpr ⟨lw_p30, List.forall_mem_cons.mpr ⟨lw_p31, fun _ h => absurd h List.not_mem_nil⟩⟩⟩⟩⟩⟩⟩⟩⟩⟩⟩⟩⟩⟩⟩⟩
theorem lw_p32 : lw_okq (⟨"TenantHostModel", "make", "(II)I"⟩, 33) := ⟨⟨by decide +kernel, by decide +kernel⟩, List.mem_of_getElem? (i := 569) (by decide +kernel), List.mem_of_getElem? (i := 785) (by decide +kernel), List.mem_of_getElem? (i := 786) (by decide +kernel)⟩
theorem lw_p33 : lw_okq (⟨"TenantHostModel", "become", "(III)V"⟩, 33) := ⟨⟨by decide +kernel, by decide +kernel⟩, List.mem_of_getElem? (i := 569) (by decide +kernel), List.mem_of_getElem? (i := 789) (by decide +kernel), List.mem_of_getElem? (i := 790) (by decide +kernel)⟩
theorem lw_p34 : lw_okq (⟨"TenantHostModel", "traffic", "(III)I"⟩, 33) := ⟨⟨by decide +kernel, by decide +kernel⟩, List.mem_of_getElem? (i := 569) (by decide +kernel), List.mem_of_getElem? (i := 793) (by decide +kernel), List.mem_of_getElem? (i := 794) (by decide +kernel)⟩
theorem lw_p35 : lw_okq (⟨"TenantHostModel", "send", "(II)I"⟩, 33) := ⟨⟨by decide +kernel, by decide +kernel⟩, List.mem_of_getElem? (i := 569) (by decide +kernel), List.mem_of_getElem? (i := 797) (by decide +kernel), List.mem_of_getElem? (i := 798) (by decide +kernel)⟩
theorem lw_p36 : lw_okq (⟨"TenantHostModel", "toCopy", "(I)I"⟩, 33) := ⟨⟨by decide +kernel, by decide +kernel⟩, List.mem_of_getElem? (i := 569) (by decide +kernel), List.mem_of_getElem? (i := 801) (by decide +kernel), List.mem_of_getElem? (i := 802) (by decide +kernel)⟩
theorem lw_p37 : lw_okq (⟨"TenantHostModel", "copy", "(II)I"⟩, 33) := ⟨⟨by decide +kernel, by decide +kernel⟩, List.mem_of_getElem? (i := 569) (by decide +kernel), List.mem_of_getElem? (i := 805) (by decide +kernel), List.mem_of_getElem? (i := 806) (by decide +kernel)⟩
theorem lw_p38 : lw_okq (⟨"TenantHostModel", "copied", "(I)I"⟩, 33) := ⟨⟨by decide +kernel, by decide +kernel⟩, List.mem_of_getElem? (i := 569) (by decide +kernel), List.mem_of_getElem? (i := 809) (by decide +kernel), List.mem_of_getElem? (i := 810) (by decide +kernel)⟩
theorem lw_p39 : lw_okq (⟨"TenantHostModel", "start", "(II)I"⟩, 33) := ⟨⟨by decide +kernel, by decide +kernel⟩, List.mem_of_getElem? (i := 569) (by decide +kernel), List.mem_of_getElem? (i := 813) (by decide +kernel), List.mem_of_getElem? (i := 814) (by decide +kernel)⟩
theorem lw_p40 : lw_okq (⟨"TenantHostModel", "stop", "(II)I"⟩, 33) := ⟨⟨by decide +kernel, by decide +kernel⟩, List.mem_of_getElem? (i := 569) (by decide +kernel), List.mem_of_getElem? (i := 818) (by decide +kernel), List.mem_of_getElem? (i := 819) (by decide +kernel)⟩
theorem lw_p41 : lw_okq (⟨"TenantHostModel", "shiftMail", "(I)V"⟩, 33) := ⟨⟨by decide +kernel, by decide +kernel⟩, List.mem_of_getElem? (i := 569) (by decide +kernel), List.mem_of_getElem? (i := 822) (by decide +kernel), List.mem_of_getElem? (i := 823) (by decide +kernel)⟩
theorem lw_p42 : lw_okq (⟨"TenantHostModel", "shiftInput", "(I)V"⟩, 33) := ⟨⟨by decide +kernel, by decide +kernel⟩, List.mem_of_getElem? (i := 569) (by decide +kernel), List.mem_of_getElem? (i := 826) (by decide +kernel), List.mem_of_getElem? (i := 827) (by decide +kernel)⟩
theorem lw_p43 : lw_okq (⟨"TenantHostModel", "plain", "(III)I"⟩, 33) := ⟨⟨by decide +kernel, by decide +kernel⟩, List.mem_of_getElem? (i := 569) (by decide +kernel), List.mem_of_getElem? (i := 830) (by decide +kernel), List.mem_of_getElem? (i := 831) (by decide +kernel)⟩
def lw_privs_3 : List (MethodName × Nat) := [(⟨"TenantHostModel", "make", "(II)I"⟩, 33), (⟨"TenantHostModel", "become", "(III)V"⟩, 33), (⟨"TenantHostModel", "traffic", "(III)I"⟩, 33), (⟨"TenantHostModel", "send", "(II)I"⟩, 33), (⟨"TenantHostModel", "toCopy", "(I)I"⟩, 33), (⟨"TenantHostModel", "copy", "(II)I"⟩, 33), (⟨"TenantHostModel", "copied", "(I)I"⟩, 33), (⟨"TenantHostModel", "start", "(II)I"⟩, 33), (⟨"TenantHostModel", "stop", "(II)I"⟩, 33), (⟨"TenantHostModel", "shiftMail", "(I)V"⟩, 33), (⟨"TenantHostModel", "shiftInput", "(I)V"⟩, 33), (⟨"TenantHostModel", "plain", "(III)I"⟩, 33)]
theorem lw_r3 : ∀ q ∈ lw_privs_3, lw_okq q := List.forall_mem_cons.mpr ⟨lw_p32, List.forall_mem_cons.mpr ⟨lw_p33, List.forall_mem_cons.mpr ⟨lw_p34, List.forall_mem_cons.mpr ⟨lw_p35, List.forall_mem_cons.mpr ⟨lw_p36, List.forall_mem_cons.mpr ⟨lw_p37, List.forall_mem_cons.mpr ⟨lw_p38, List.forall_mem_cons.mpr ⟨lw_p39, List.forall_mem_cons.mpr ⟨lw_p40, List.forall_mem_cons.mpr ⟨lw_p41, List.forall_mem_cons.mpr ⟨lw_p42, List.forall_mem_cons.mpr ⟨lw_p43, fun _ h => absurd h List.not_mem_nil⟩⟩⟩⟩⟩⟩⟩⟩⟩⟩⟩⟩
def lw_privs : List (MethodName × Nat) := lw_privs_1 ++ (lw_privs_2 ++ (lw_privs_3))
def lw_tbl : List Cond := k2_sels lw_privs ++ tables_1
theorem lw_privs_ok : ∀ q ∈ lw_privs, lw_okq q := by
  show ∀ q ∈ lw_privs_1 ++ (lw_privs_2 ++ (lw_privs_3)), lw_okq q
  exact List.forall_mem_append.mpr ⟨lw_r1, List.forall_mem_append.mpr ⟨lw_r2, lw_r3⟩⟩
end
section
def R_Heap : String := "TenantHost$Heap"
def T_Heap : u_T := fun k => match k with
  | 0 => ("TenantHost$Heap", "nums", "[I", true)
  | 1 => ("TenantHost$Heap", "lefts", "[I", true)
  | 2 => ("TenantHost$Heap", "rights", "[I", true)
  | 3 => ("TenantHost$Heap", "copies", "[I", true)
  | 4 => ("TenantHost$Heap", "made", "J", false)
  | 5 => ("TenantHost$Heap", "reserved", "I", false)
  | _ => ("TenantHost$Heap", "collected", "I", false)
def ty_Heap : Nat → FieldType := fun k => match k with
  | 0 => .array .int
  | 1 => .array .int
  | 2 => .array .int
  | 3 => .array .int
  | 4 => .long
  | 5 => .int
  | _ => .int
theorem nm_Heap : ∀ a, a < 7 → ∀ b, b < 7 → a ≠ b → (T_Heap a).2.1 ≠ (T_Heap b).2.1 := by decide +kernel
theorem tk_Heap : ∀ k, k < 7 → parseFieldDescriptor (T_Heap k).2.2.1 = some (ty_Heap k) := by decide +kernel
def R_Line : String := "TenantHost$Line"
def T_Line : u_T := fun k => match k with
  | 0 => ("TenantHost$Line", "items", "[I", true)
  | _ => ("TenantHost$Line", "count", "I", false)
def ty_Line : Nat → FieldType := fun k => match k with
  | 0 => .array .int
  | _ => .int
theorem nm_Line : ∀ a, a < 2 → ∀ b, b < 2 → a ≠ b → (T_Line a).2.1 ≠ (T_Line b).2.1 := by decide +kernel
theorem tk_Line : ∀ k, k < 2 → parseFieldDescriptor (T_Line k).2.2.1 = some (ty_Line k) := by decide +kernel
def R_Prog : String := "TenantHost$Program"
def T_Prog : u_T := fun k => match k with
  | 0 => ("TenantHost$Program", "ops", "[I", true)
  | 1 => ("TenantHost$Program", "args", "[I", true)
  | 2 => ("TenantHost$Program", "shapes", "[I", true)
  | 3 => ("TenantHost$Program", "reached", "[I", true)
  | 4 => ("TenantHost$Program", "reachedCount", "I", false)
  | 5 => ("TenantHost$Program", "count", "I", false)
  | _ => ("TenantHost$Program", "closed", "Z", false)
def ty_Prog : Nat → FieldType := fun k => match k with
  | 0 => .array .int
  | 1 => .array .int
  | 2 => .array .int
  | 3 => .array .int
  | 4 => .int
  | 5 => .int
  | _ => .boolean
theorem nm_Prog : ∀ a, a < 7 → ∀ b, b < 7 → a ≠ b → (T_Prog a).2.1 ≠ (T_Prog b).2.1 := by decide +kernel
theorem tk_Prog : ∀ k, k < 7 → parseFieldDescriptor (T_Prog k).2.2.1 = some (ty_Prog k) := by decide +kernel
def R_Stk : String := "TenantHost$Stack"
def T_Stk : u_T := fun k => match k with
  | 0 => ("TenantHost$Stack", "values", "[I", true)
  | 1 => ("TenantHost$Stack", "areReferences", "[Z", true)
  | _ => ("TenantHost$Stack", "depth", "I", false)
def ty_Stk : Nat → FieldType := fun k => match k with
  | 0 => .array .int
  | 1 => .array .boolean
  | _ => .int
theorem nm_Stk : ∀ a, a < 3 → ∀ b, b < 3 → a ≠ b → (T_Stk a).2.1 ≠ (T_Stk b).2.1 := by decide +kernel
theorem tk_Stk : ∀ k, k < 3 → parseFieldDescriptor (T_Stk k).2.2.1 = some (ty_Stk k) := by decide +kernel
def R_Ten : String := "TenantHost$Tenant"
def T_Ten : u_T := fun k => match k with
  | 0 => ("TenantHost$Tenant", "heap", "LTenantHost$Heap;", true)
  | 1 => ("TenantHost$Tenant", "stack", "LTenantHost$Stack;", true)
  | 2 => ("TenantHost$Tenant", "locals", "[I", true)
  | 3 => ("TenantHost$Tenant", "mail", "LTenantHost$Line;", true)
  | 4 => ("TenantHost$Tenant", "inputs", "LTenantHost$Line;", true)
  | 5 => ("TenantHost$Tenant", "outputs", "LTenantHost$Line;", true)
  | 6 => ("TenantHost$Tenant", "permitted", "[I", true)
  | 7 => ("TenantHost$Tenant", "state", "I", false)
  | 8 => ("TenantHost$Tenant", "program", "I", false)
  | 9 => ("TenantHost$Tenant", "position", "I", false)
  | 10 => ("TenantHost$Tenant", "stepsReserved", "I", false)
  | 11 => ("TenantHost$Tenant", "stepsDone", "I", false)
  | _ => ("TenantHost$Tenant", "endSlice", "I", false)
def ty_Ten : Nat → FieldType := fun k => match k with
  | 0 => .object "TenantHost$Heap"
  | 1 => .object "TenantHost$Stack"
  | 2 => .array .int
  | 3 => .object "TenantHost$Line"
  | 4 => .object "TenantHost$Line"
  | 5 => .object "TenantHost$Line"
  | 6 => .array .int
  | 7 => .int
  | 8 => .int
  | 9 => .int
  | 10 => .int
  | 11 => .int
  | _ => .int
theorem nm_Ten : ∀ a, a < 13 → ∀ b, b < 13 → a ≠ b → (T_Ten a).2.1 ≠ (T_Ten b).2.1 := by decide +kernel
theorem tk_Ten : ∀ k, k < 13 → parseFieldDescriptor (T_Ten k).2.2.1 = some (ty_Ten k) := by decide +kernel
def R_Host : String := "TenantHost"
def T_Host : u_T := fun k => match k with
  | 0 => ("TenantHost", "length", "I", true)
  | 1 => ("TenantHost", "programs", "[LTenantHost$Program;", true)
  | 2 => ("TenantHost", "tenants", "[LTenantHost$Tenant;", true)
  | 3 => ("TenantHost", "sharedCount", "I", false)
  | _ => ("TenantHost", "slice", "I", false)
def ty_Host : Nat → FieldType := fun k => match k with
  | 0 => .int
  | 1 => .array (.object "TenantHost$Program")
  | 2 => .array (.object "TenantHost$Tenant")
  | 3 => .int
  | _ => .int
theorem nm_Host : ∀ a, a < 5 → ∀ b, b < 5 → a ≠ b → (T_Host a).2.1 ≠ (T_Host b).2.1 := by decide +kernel
theorem tk_Host : ∀ k, k < 5 → parseFieldDescriptor (T_Host k).2.2.1 = some (ty_Host k) := by decide +kernel
def R_Mod : String := "TenantHostModel"
def T_Mod : u_T := fun k => match k with
  | 0 => ("TenantHostModel", "length", "I", true)
  | 1 => ("TenantHostModel", "ops", "[I", false)
  | 2 => ("TenantHostModel", "argOf", "[I", false)
  | 3 => ("TenantHostModel", "shapes", "[I", false)
  | 4 => ("TenantHostModel", "many", "[I", false)
  | 5 => ("TenantHostModel", "sealed", "[Z", false)
  | 6 => ("TenantHostModel", "there", "[Z", false)
  | 7 => ("TenantHostModel", "num", "[I", false)
  | 8 => ("TenantHostModel", "left", "[I", false)
  | 9 => ("TenantHostModel", "right", "[I", false)
  | 10 => ("TenantHostModel", "shared", "I", false)
  | 11 => ("TenantHostModel", "mark", "[Z", false)
  | 12 => ("TenantHostModel", "reached", "[Z", false)
  | 13 => ("TenantHostModel", "twin", "[I", false)
  | 14 => ("TenantHostModel", "cells", "[I", false)
  | 15 => ("TenantHostModel", "most", "[I", false)
  | 16 => ("TenantHostModel", "states", "[I", false)
  | 17 => ("TenantHostModel", "program", "[I", false)
  | 18 => ("TenantHostModel", "position", "[I", false)
  | 19 => ("TenantHostModel", "stepsOf", "[I", false)
  | 20 => ("TenantHostModel", "collects", "[I", false)
  | 21 => ("TenantHostModel", "endOf", "[I", false)
  | 22 => ("TenantHostModel", "height", "[I", false)
  | 23 => ("TenantHostModel", "stack", "[I", false)
  | 24 => ("TenantHostModel", "locals", "[I", false)
  | 25 => ("TenantHostModel", "mail", "[I", false)
  | 26 => ("TenantHostModel", "mails", "[I", false)
  | 27 => ("TenantHostModel", "input", "[I", false)
  | 28 => ("TenantHostModel", "inputs", "[I", false)
  | 29 => ("TenantHostModel", "out", "[I", false)
  | 30 => ("TenantHostModel", "outs", "[I", false)
  | 31 => ("TenantHostModel", "allowed", "[I", false)
  | _ => ("TenantHostModel", "slice", "I", false)
def ty_Mod : Nat → FieldType := fun k => match k with
  | 0 => .int
  | 1 => .array .int
  | 2 => .array .int
  | 3 => .array .int
  | 4 => .array .int
  | 5 => .array .boolean
  | 6 => .array .boolean
  | 7 => .array .int
  | 8 => .array .int
  | 9 => .array .int
  | 10 => .int
  | 11 => .array .boolean
  | 12 => .array .boolean
  | 13 => .array .int
  | 14 => .array .int
  | 15 => .array .int
  | 16 => .array .int
  | 17 => .array .int
  | 18 => .array .int
  | 19 => .array .int
  | 20 => .array .int
  | 21 => .array .int
  | 22 => .array .int
  | 23 => .array .int
  | 24 => .array .int
  | 25 => .array .int
  | 26 => .array .int
  | 27 => .array .int
  | 28 => .array .int
  | 29 => .array .int
  | 30 => .array .int
  | 31 => .array .int
  | _ => .int
theorem nm_Mod : ∀ a, a < 33 → ∀ b, b < 33 → a ≠ b → (T_Mod a).2.1 ≠ (T_Mod b).2.1 := by decide +kernel
theorem tk_Mod : ∀ k, k < 33 → parseFieldDescriptor (T_Mod k).2.2.1 = some (ty_Mod k) := by decide +kernel
def R_Ins : String := "TenantHost$Instructions"
def R_Law : String := "TenantHostLaw"
def R_JL : String := "java/lang/Long"
def R_JM : String := "java/lang/Math"
def R_JA : String := "java/util/Arrays"
/-- the classes whose objects the memory holds -/
abbrev gcl : List vw_C := [(R_Heap, T_Heap, 7), (R_Line, T_Line, 2), (R_Prog, T_Prog, 7), (R_Stk, T_Stk, 3), (R_Ten, T_Ten, 13), (R_Host, T_Host, 5), (R_Mod, T_Mod, 33)]
/-- the arrays of the memory, by what they hold -/
def tyk : Nat → FieldType
  | 0 => .int
  | 1 => .boolean
  | 2 => .object "TenantHost$Program"
  | _ => .object "TenantHost$Tenant"
def sta_C : String := "TenantHost$Instructions"
def sta_n : Nat → String
  | 0 => "TAKES"
  | 1 => "PUTS"
  | _ => "HIGHEST_ARG"
def sta_l : Nat → List Int32
  | 0 => [1, 1, 4, 4, 4, 4, 4, 1, 1, 1, 1, 2, 3, 1, 7, 1, 1, 1, 2, 2, 1, 3, 1, 2, 1]
  | 1 => [1, 2, 2, 2, 2, 2, 2, 1, 1, 1, 1, 3, 1, 1, 2, 3, 3, 1, 1, 1, 2, 2, 3, 2, 2]
  | _ => [0, 0, 0, 0, 0, 0, 0, 3, 3, 0, 0, 0, 2, 2, 0, 0, 7, 23, 23, 0, 0, 3, 0, 3, 3]
def sta_v (i j : Nat) : Int32 := (sta_l i).getD j 0
def y_Host_init : MethodName := ⟨R_Host, "<init>", "(I)V"⟩
abbrev mt_Host_init : MethodName × ByteArray × Nat × Option FieldType := (y_Host_init, prog_1_method_1_code, 3, none)
def y_JM_min : MethodName := ⟨R_JM, "min", "(II)I"⟩
abbrev mt_JM_min : MethodName × ByteArray × Nat × Option FieldType := (y_JM_min, prog_11_method_69_code, 2, (some .int))
def y_JM_max : MethodName := ⟨R_JM, "max", "(II)I"⟩
abbrev mt_JM_max : MethodName × ByteArray × Nat × Option FieldType := (y_JM_max, prog_11_method_65_code, 2, (some .int))
def y_Prog_init : MethodName := ⟨R_Prog, "<init>", "()V"⟩
abbrev mt_Prog_init : MethodName × ByteArray × Nat × Option FieldType := (y_Prog_init, prog_5_method_1_code, 1, none)
def y_Ten_init : MethodName := ⟨R_Ten, "<init>", "()V"⟩
abbrev mt_Ten_init : MethodName × ByteArray × Nat × Option FieldType := (y_Ten_init, prog_7_method_1_code, 1, none)
def y_Heap_init : MethodName := ⟨R_Heap, "<init>", "()V"⟩
abbrev mt_Heap_init : MethodName × ByteArray × Nat × Option FieldType := (y_Heap_init, prog_2_method_1_code, 2, none)
def y_Stk_init : MethodName := ⟨R_Stk, "<init>", "()V"⟩
abbrev mt_Stk_init : MethodName × ByteArray × Nat × Option FieldType := (y_Stk_init, prog_6_method_1_code, 1, none)
def y_Line_init : MethodName := ⟨R_Line, "<init>", "(I)V"⟩
abbrev mt_Line_init : MethodName × ByteArray × Nat × Option FieldType := (y_Line_init, prog_4_method_1_code, 2, none)
def y_Host_code : MethodName := ⟨R_Host, "code", "(III)I"⟩
abbrev mt_Host_code : MethodName × ByteArray × Nat × Option FieldType := (y_Host_code, prog_1_method_2_code, 4, (some .int))
def y_Host_isProgram : MethodName := ⟨R_Host, "isProgram", "(I)Z"⟩
abbrev mt_Host_isProgram : MethodName × ByteArray × Nat × Option FieldType := (y_Host_isProgram, prog_1_method_22_code, 1, (some .boolean))
def y_Ins_isOne : MethodName := ⟨R_Ins, "isOne", "(II)Z"⟩
abbrev mt_Ins_isOne : MethodName × ByteArray × Nat × Option FieldType := (y_Ins_isOne, prog_3_method_2_code, 2, (some .boolean))
def y_Prog_append : MethodName := ⟨R_Prog, "append", "(II)I"⟩
abbrev mt_Prog_append : MethodName × ByteArray × Nat × Option FieldType := (y_Prog_append, prog_5_method_2_code, 3, (some .int))
def y_Host_clear : MethodName := ⟨R_Host, "clear", "(I)Z"⟩
abbrev mt_Host_clear : MethodName × ByteArray × Nat × Option FieldType := (y_Host_clear, prog_1_method_3_code, 2, (some .boolean))
def y_Prog_empty : MethodName := ⟨R_Prog, "empty", "()Z"⟩
abbrev mt_Prog_empty : MethodName × ByteArray × Nat × Option FieldType := (y_Prog_empty, prog_5_method_3_code, 1, (some .boolean))
def y_Host_seal : MethodName := ⟨R_Host, "seal", "(I)Z"⟩
abbrev mt_Host_seal : MethodName × ByteArray × Nat × Option FieldType := (y_Host_seal, prog_1_method_4_code, 2, (some .boolean))
def y_Prog_close : MethodName := ⟨R_Prog, "close", "()Z"⟩
abbrev mt_Prog_close : MethodName × ByteArray × Nat × Option FieldType := (y_Prog_close, prog_5_method_4_code, 1, (some .boolean))
def y_Prog_isSound : MethodName := ⟨R_Prog, "isSound", "()Z"⟩
abbrev mt_Prog_isSound : MethodName × ByteArray × Nat × Option FieldType := (y_Prog_isSound, prog_5_method_9_code, 3, (some .boolean))
def y_JA_fill : MethodName := ⟨R_JA, "fill", "([II)V"⟩
abbrev mt_JA_fill : MethodName × ByteArray × Nat × Option FieldType := (y_JA_fill, prog_13_method_103_code, 4, none)
def y_Prog_reach : MethodName := ⟨R_Prog, "reach", "(II)Z"⟩
abbrev mt_Prog_reach : MethodName × ByteArray × Nat × Option FieldType := (y_Prog_reach, prog_5_method_11_code, 3, (some .boolean))
def y_Prog_has : MethodName := ⟨R_Prog, "has", "(I)Z"⟩
abbrev mt_Prog_has : MethodName × ByteArray × Nat × Option FieldType := (y_Prog_has, prog_5_method_8_code, 2, (some .boolean))
def y_Prog_goOnFrom : MethodName := ⟨R_Prog, "goOnFrom", "(I)Z"⟩
abbrev mt_Prog_goOnFrom : MethodName × ByteArray × Nat × Option FieldType := (y_Prog_goOnFrom, prog_5_method_10_code, 5, (some .boolean))
def y_Ins_shapeAfter : MethodName := ⟨R_Ins, "shapeAfter", "(III)I"⟩
abbrev mt_Ins_shapeAfter : MethodName × ByteArray × Nat × Option FieldType := (y_Ins_shapeAfter, prog_3_method_3_code, 7, (some .int))
def y_Ins_takes : MethodName := ⟨R_Ins, "takes", "(III)I"⟩
abbrev mt_Ins_takes : MethodName × ByteArray × Nat × Option FieldType := (y_Ins_takes, prog_3_method_4_code, 3, (some .int))
def y_Ins_typeOfLocal : MethodName := ⟨R_Ins, "typeOfLocal", "(I)I"⟩
abbrev mt_Ins_typeOfLocal : MethodName × ByteArray × Nat × Option FieldType := (y_Ins_typeOfLocal, prog_3_method_6_code, 1, (some .int))
def y_Ins_countOf : MethodName := ⟨R_Ins, "countOf", "(I)I"⟩
abbrev mt_Ins_countOf : MethodName × ByteArray × Nat × Option FieldType := (y_Ins_countOf, prog_3_method_7_code, 1, (some .int))
def y_Ins_join : MethodName := ⟨R_Ins, "join", "(II)I"⟩
abbrev mt_Ins_join : MethodName × ByteArray × Nat × Option FieldType := (y_Ins_join, prog_3_method_8_code, 2, (some .int))
def y_Ins_puts : MethodName := ⟨R_Ins, "puts", "(III)I"⟩
abbrev mt_Ins_puts : MethodName × ByteArray × Nat × Option FieldType := (y_Ins_puts, prog_3_method_5_code, 3, (some .int))
def y_Host_shape : MethodName := ⟨R_Host, "shape", "(II)I"⟩
abbrev mt_Host_shape : MethodName × ByteArray × Nat × Option FieldType := (y_Host_shape, prog_1_method_5_code, 3, (some .int))
def y_Prog_shapeAt : MethodName := ⟨R_Prog, "shapeAt", "(I)I"⟩
abbrev mt_Prog_shapeAt : MethodName × ByteArray × Nat × Option FieldType := (y_Prog_shapeAt, prog_5_method_5_code, 2, (some .int))
def y_Host_share : MethodName := ⟨R_Host, "share", "(III)I"⟩
abbrev mt_Host_share : MethodName × ByteArray × Nat × Option FieldType := (y_Host_share, prog_1_method_6_code, 6, (some .int))
def y_Host_isSharedOrNone : MethodName := ⟨R_Host, "isSharedOrNone", "(I)Z"⟩
abbrev mt_Host_isSharedOrNone : MethodName × ByteArray × Nat × Option FieldType := (y_Host_isSharedOrNone, prog_1_method_24_code, 2, (some .boolean))
def y_Host_sharedReference : MethodName := ⟨R_Host, "sharedReference", "(I)I"⟩
abbrev mt_Host_sharedReference : MethodName × ByteArray × Nat × Option FieldType := (y_Host_sharedReference, prog_1_method_25_code, 1, (some .int))
def y_Heap_fill : MethodName := ⟨R_Heap, "fill", "(IIII)V"⟩
abbrev mt_Heap_fill : MethodName × ByteArray × Nat × Option FieldType := (y_Heap_fill, prog_2_method_3_code, 5, none)
def y_Host_reserve : MethodName := ⟨R_Host, "reserve", "(III)Z"⟩
abbrev mt_Host_reserve : MethodName × ByteArray × Nat × Option FieldType := (y_Host_reserve, prog_1_method_7_code, 5, (some .boolean))
def y_Host_isTenant : MethodName := ⟨R_Host, "isTenant", "(I)Z"⟩
abbrev mt_Host_isTenant : MethodName × ByteArray × Nat × Option FieldType := (y_Host_isTenant, prog_1_method_23_code, 1, (some .boolean))
def y_Ten_isReserved : MethodName := ⟨R_Ten, "isReserved", "()Z"⟩
abbrev mt_Ten_isReserved : MethodName × ByteArray × Nat × Option FieldType := (y_Ten_isReserved, prog_7_method_2_code, 1, (some .boolean))
def y_Host_reservedCells : MethodName := ⟨R_Host, "reservedCells", "()I"⟩
abbrev mt_Host_reservedCells : MethodName × ByteArray × Nat × Option FieldType := (y_Host_reservedCells, prog_1_method_26_code, 3, (some .int))
def y_Host_permit : MethodName := ⟨R_Host, "permit", "(III)Z"⟩
abbrev mt_Host_permit : MethodName × ByteArray × Nat × Option FieldType := (y_Host_permit, prog_1_method_8_code, 4, (some .boolean))
def y_Host_launch : MethodName := ⟨R_Host, "launch", "(II)Z"⟩
abbrev mt_Host_launch : MethodName × ByteArray × Nat × Option FieldType := (y_Host_launch, prog_1_method_9_code, 3, (some .boolean))
def y_Host_begin : MethodName := ⟨R_Host, "begin", "(LTenantHost$Tenant;I)Z"⟩
abbrev mt_Host_begin : MethodName × ByteArray × Nat × Option FieldType := (y_Host_begin, prog_1_method_27_code, 3, (some .boolean))
def y_Host_feed : MethodName := ⟨R_Host, "feed", "(II)Z"⟩
abbrev mt_Host_feed : MethodName × ByteArray × Nat × Option FieldType := (y_Host_feed, prog_1_method_10_code, 3, (some .boolean))
def y_Line_add : MethodName := ⟨R_Line, "add", "(I)Z"⟩
abbrev mt_Line_add : MethodName × ByteArray × Nat × Option FieldType := (y_Line_add, prog_4_method_3_code, 2, (some .boolean))
def y_Line_isFull : MethodName := ⟨R_Line, "isFull", "()Z"⟩
abbrev mt_Line_isFull : MethodName × ByteArray × Nat × Option FieldType := (y_Line_isFull, prog_4_method_2_code, 1, (some .boolean))
def y_Host_run : MethodName := ⟨R_Host, "run", "(I)I"⟩
abbrev mt_Host_run : MethodName × ByteArray × Nat × Option FieldType := (y_Host_run, prog_1_method_11_code, 3, (some .int))
def y_JM_floorMod : MethodName := ⟨R_JM, "floorMod", "(II)I"⟩
abbrev mt_JM_floorMod : MethodName × ByteArray × Nat × Option FieldType := (y_JM_floorMod, prog_11_method_50_code, 3, (some .int))
def y_Host_doSlice : MethodName := ⟨R_Host, "doSlice", "(LTenantHost$Tenant;)V"⟩
abbrev mt_Host_doSlice : MethodName × ByteArray × Nat × Option FieldType := (y_Host_doSlice, prog_1_method_29_code, 3, none)
def y_Ten_isAlive : MethodName := ⟨R_Ten, "isAlive", "()Z"⟩
abbrev mt_Ten_isAlive : MethodName × ByteArray × Nat × Option FieldType := (y_Ten_isAlive, prog_7_method_3_code, 1, (some .boolean))
def y_Host_end : MethodName := ⟨R_Host, "end", "(LTenantHost$Tenant;I)V"⟩
abbrev mt_Host_end : MethodName × ByteArray × Nat × Option FieldType := (y_Host_end, prog_1_method_28_code, 3, none)
def y_Ten_dropAll : MethodName := ⟨R_Ten, "dropAll", "()V"⟩
abbrev mt_Ten_dropAll : MethodName × ByteArray × Nat × Option FieldType := (y_Ten_dropAll, prog_7_method_7_code, 1, none)
def y_Stk_drop : MethodName := ⟨R_Stk, "drop", "()V"⟩
abbrev mt_Stk_drop : MethodName × ByteArray × Nat × Option FieldType := (y_Stk_drop, prog_6_method_9_code, 1, none)
def y_Line_drop : MethodName := ⟨R_Line, "drop", "()V"⟩
abbrev mt_Line_drop : MethodName × ByteArray × Nat × Option FieldType := (y_Line_drop, prog_4_method_6_code, 1, none)
def y_Host_mustWait : MethodName := ⟨R_Host, "mustWait", "(LTenantHost$Tenant;)Z"⟩
abbrev mt_Host_mustWait : MethodName × ByteArray × Nat × Option FieldType := (y_Host_mustWait, prog_1_method_30_code, 2, (some .boolean))
def y_Prog_opAt : MethodName := ⟨R_Prog, "opAt", "(I)I"⟩
abbrev mt_Prog_opAt : MethodName × ByteArray × Nat × Option FieldType := (y_Prog_opAt, prog_5_method_6_code, 2, (some .int))
def y_Host_doInstruction : MethodName := ⟨R_Host, "doInstruction", "(LTenantHost$Tenant;)V"⟩
abbrev mt_Host_doInstruction : MethodName × ByteArray × Nat × Option FieldType := (y_Host_doInstruction, prog_1_method_31_code, 4, none)
def y_Prog_argAt : MethodName := ⟨R_Prog, "argAt", "(I)I"⟩
abbrev mt_Prog_argAt : MethodName × ByteArray × Nat × Option FieldType := (y_Prog_argAt, prog_5_method_7_code, 2, (some .int))
def y_Stk_putNumber : MethodName := ⟨R_Stk, "putNumber", "(I)V"⟩
abbrev mt_Stk_putNumber : MethodName × ByteArray × Nat × Option FieldType := (y_Stk_putNumber, prog_6_method_3_code, 2, none)
def y_Stk_put : MethodName := ⟨R_Stk, "put", "(IZ)V"⟩
abbrev mt_Stk_put : MethodName × ByteArray × Nat × Option FieldType := (y_Stk_put, prog_6_method_2_code, 3, none)
def y_Host_calculate : MethodName := ⟨R_Host, "calculate", "(LTenantHost$Stack;I)V"⟩
abbrev mt_Host_calculate : MethodName × ByteArray × Nat × Option FieldType := (y_Host_calculate, prog_1_method_32_code, 4, none)
def y_Stk_take : MethodName := ⟨R_Stk, "take", "()I"⟩
abbrev mt_Stk_take : MethodName × ByteArray × Nat × Option FieldType := (y_Stk_take, prog_6_method_8_code, 2, (some .int))
def y_Stk_top : MethodName := ⟨R_Stk, "top", "()I"⟩
abbrev mt_Stk_top : MethodName × ByteArray × Nat × Option FieldType := (y_Stk_top, prog_6_method_7_code, 1, (some .int))
def y_Stk_putTruth : MethodName := ⟨R_Stk, "putTruth", "(Z)V"⟩
abbrev mt_Stk_putTruth : MethodName × ByteArray × Nat × Option FieldType := (y_Stk_putTruth, prog_6_method_4_code, 2, none)
def y_Host_divide : MethodName := ⟨R_Host, "divide", "(LTenantHost$Tenant;)V"⟩
abbrev mt_Host_divide : MethodName × ByteArray × Nat × Option FieldType := (y_Host_divide, prog_1_method_33_code, 4, none)
def y_Stk_putTopAgain : MethodName := ⟨R_Stk, "putTopAgain", "()V"⟩
abbrev mt_Stk_putTopAgain : MethodName × ByteArray × Nat × Option FieldType := (y_Stk_putTopAgain, prog_6_method_6_code, 1, none)
def y_Host_makeCell : MethodName := ⟨R_Host, "makeCell", "(LTenantHost$Tenant;)V"⟩
abbrev mt_Host_makeCell : MethodName × ByteArray × Nat × Option FieldType := (y_Host_makeCell, prog_1_method_34_code, 3, none)
def y_Ten_hasRoom : MethodName := ⟨R_Ten, "hasRoom", "(I)Z"⟩
abbrev mt_Ten_hasRoom : MethodName × ByteArray × Nat × Option FieldType := (y_Ten_hasRoom, prog_7_method_6_code, 2, (some .boolean))
def y_Heap_fits : MethodName := ⟨R_Heap, "fits", "(I)Z"⟩
abbrev mt_Heap_fits : MethodName × ByteArray × Nat × Option FieldType := (y_Heap_fits, prog_2_method_4_code, 2, (some .boolean))
def y_JL_bitCount : MethodName := ⟨R_JL, "bitCount", "(J)I"⟩
abbrev mt_JL_bitCount : MethodName × ByteArray × Nat × Option FieldType := (y_JL_bitCount, prog_10_method_50_code, 2, (some .int))
def y_Ten_liveCells : MethodName := ⟨R_Ten, "liveCells", "()J"⟩
abbrev mt_Ten_liveCells : MethodName × ByteArray × Nat × Option FieldType := (y_Ten_liveCells, prog_7_method_5_code, 4, (some .long))
def y_Stk_cells : MethodName := ⟨R_Stk, "cells", "()J"⟩
abbrev mt_Stk_cells : MethodName × ByteArray × Nat × Option FieldType := (y_Stk_cells, prog_6_method_10_code, 4, (some .long))
def y_Line_itemAt : MethodName := ⟨R_Line, "itemAt", "(I)I"⟩
abbrev mt_Line_itemAt : MethodName × ByteArray × Nat × Option FieldType := (y_Line_itemAt, prog_4_method_4_code, 2, (some .int))
def y_Heap_reachedFrom : MethodName := ⟨R_Heap, "reachedFrom", "(J)J"⟩
abbrev mt_Heap_reachedFrom : MethodName × ByteArray × Nat × Option FieldType := (y_Heap_reachedFrom, prog_2_method_7_code, 9, (some .long))
def y_Heap_isIn : MethodName := ⟨R_Heap, "isIn", "(JI)Z"⟩
abbrev mt_Heap_isIn : MethodName × ByteArray × Nat × Option FieldType := (y_Heap_isIn, prog_2_method_9_code, 3, (some .boolean))
def y_Heap_keepOnly : MethodName := ⟨R_Heap, "keepOnly", "(J)V"⟩
abbrev mt_Heap_keepOnly : MethodName × ByteArray × Nat × Option FieldType := (y_Heap_keepOnly, prog_2_method_6_code, 3, none)
def y_Heap_make : MethodName := ⟨R_Heap, "make", "(I)I"⟩
abbrev mt_Heap_make : MethodName × ByteArray × Nat × Option FieldType := (y_Heap_make, prog_2_method_5_code, 3, (some .int))
def y_Stk_putReference : MethodName := ⟨R_Stk, "putReference", "(I)V"⟩
abbrev mt_Stk_putReference : MethodName × ByteArray × Nat × Option FieldType := (y_Stk_putReference, prog_6_method_5_code, 2, none)
def y_Host_getPart : MethodName := ⟨R_Host, "getPart", "(LTenantHost$Tenant;I)V"⟩
abbrev mt_Host_getPart : MethodName × ByteArray × Nat × Option FieldType := (y_Host_getPart, prog_1_method_35_code, 4, none)
def y_Heap_rowOf : MethodName := ⟨R_Heap, "rowOf", "(I)[I"⟩
abbrev mt_Heap_rowOf : MethodName × ByteArray × Nat × Option FieldType := (y_Heap_rowOf, prog_2_method_2_code, 2, (some (.array .int)))
def y_Host_setPart : MethodName := ⟨R_Host, "setPart", "(LTenantHost$Tenant;I)V"⟩
abbrev mt_Host_setPart : MethodName × ByteArray × Nat × Option FieldType := (y_Host_setPart, prog_1_method_36_code, 5, none)
def y_Host_compare : MethodName := ⟨R_Host, "compare", "(LTenantHost$Stack;)V"⟩
abbrev mt_Host_compare : MethodName × ByteArray × Nat × Option FieldType := (y_Host_compare, prog_1_method_37_code, 3, none)
def y_Host_jumpIfZero : MethodName := ⟨R_Host, "jumpIfZero", "(LTenantHost$Tenant;I)V"⟩
abbrev mt_Host_jumpIfZero : MethodName × ByteArray × Nat × Option FieldType := (y_Host_jumpIfZero, prog_1_method_38_code, 2, none)
def y_Host_putOut : MethodName := ⟨R_Host, "putOut", "(LTenantHost$Tenant;)V"⟩
abbrev mt_Host_putOut : MethodName × ByteArray × Nat × Option FieldType := (y_Host_putOut, prog_1_method_39_code, 2, none)
def y_Line_takeFirst : MethodName := ⟨R_Line, "takeFirst", "()I"⟩
abbrev mt_Line_takeFirst : MethodName × ByteArray × Nat × Option FieldType := (y_Line_takeFirst, prog_4_method_5_code, 2, (some .int))
def y_Host_sendTo : MethodName := ⟨R_Host, "sendTo", "(LTenantHost$Tenant;I)V"⟩
abbrev mt_Host_sendTo : MethodName × ByteArray × Nat × Option FieldType := (y_Host_sendTo, prog_1_method_40_code, 8, none)
def y_Ten_may : MethodName := ⟨R_Ten, "may", "(II)Z"⟩
abbrev mt_Ten_may : MethodName × ByteArray × Nat × Option FieldType := (y_Ten_may, prog_7_method_4_code, 3, (some .boolean))
def y_Heap_copyFrom : MethodName := ⟨R_Heap, "copyFrom", "(LTenantHost$Heap;JI)I"⟩
abbrev mt_Heap_copyFrom : MethodName × ByteArray × Nat × Option FieldType := (y_Heap_copyFrom, prog_2_method_8_code, 6, (some .int))
def y_Host_startOther : MethodName := ⟨R_Host, "startOther", "(LTenantHost$Tenant;I)V"⟩
abbrev mt_Host_startOther : MethodName × ByteArray × Nat × Option FieldType := (y_Host_startOther, prog_1_method_41_code, 4, none)
def y_Host_stopOther : MethodName := ⟨R_Host, "stopOther", "(LTenantHost$Tenant;I)V"⟩
abbrev mt_Host_stopOther : MethodName × ByteArray × Nat × Option FieldType := (y_Host_stopOther, prog_1_method_42_code, 5, none)
def y_Host_state : MethodName := ⟨R_Host, "state", "(I)I"⟩
abbrev mt_Host_state : MethodName × ByteArray × Nat × Option FieldType := (y_Host_state, prog_1_method_12_code, 2, (some .int))
def y_Host_steps : MethodName := ⟨R_Host, "steps", "(I)I"⟩
abbrev mt_Host_steps : MethodName × ByteArray × Nat × Option FieldType := (y_Host_steps, prog_1_method_13_code, 2, (some .int))
def y_Host_used : MethodName := ⟨R_Host, "used", "(I)I"⟩
abbrev mt_Host_used : MethodName × ByteArray × Nat × Option FieldType := (y_Host_used, prog_1_method_14_code, 2, (some .int))
def y_Host_live : MethodName := ⟨R_Host, "live", "(I)I"⟩
abbrev mt_Host_live : MethodName × ByteArray × Nat × Option FieldType := (y_Host_live, prog_1_method_15_code, 2, (some .int))
def y_Host_collections : MethodName := ⟨R_Host, "collections", "(I)I"⟩
abbrev mt_Host_collections : MethodName × ByteArray × Nat × Option FieldType := (y_Host_collections, prog_1_method_16_code, 2, (some .int))
def y_Host_ended : MethodName := ⟨R_Host, "ended", "(I)I"⟩
abbrev mt_Host_ended : MethodName × ByteArray × Nat × Option FieldType := (y_Host_ended, prog_1_method_17_code, 2, (some .int))
def y_Host_messages : MethodName := ⟨R_Host, "messages", "(I)I"⟩
abbrev mt_Host_messages : MethodName × ByteArray × Nat × Option FieldType := (y_Host_messages, prog_1_method_18_code, 2, (some .int))
def y_Host_output : MethodName := ⟨R_Host, "output", "(II)I"⟩
abbrev mt_Host_output : MethodName × ByteArray × Nat × Option FieldType := (y_Host_output, prog_1_method_19_code, 3, (some .int))
def y_Host_local : MethodName := ⟨R_Host, "local", "(II)I"⟩
abbrev mt_Host_local : MethodName × ByteArray × Nat × Option FieldType := (y_Host_local, prog_1_method_20_code, 3, (some .int))
def y_Host_look : MethodName := ⟨R_Host, "look", "(III)I"⟩
abbrev mt_Host_look : MethodName × ByteArray × Nat × Option FieldType := (y_Host_look, prog_1_method_21_code, 8, (some .int))
def y_Mod_init : MethodName := ⟨R_Mod, "<init>", "(I)V"⟩
abbrev mt_Mod_init : MethodName × ByteArray × Nat × Option FieldType := (y_Mod_init, prog_9_method_1_code, 3, none)
def y_Mod_code : MethodName := ⟨R_Mod, "code", "(III)I"⟩
abbrev mt_Mod_code : MethodName × ByteArray × Nat × Option FieldType := (y_Mod_code, prog_9_method_4_code, 5, (some .int))
def y_Mod_four : MethodName := ⟨R_Mod, "four", "(I)Z"⟩
abbrev mt_Mod_four : MethodName × ByteArray × Nat × Option FieldType := (y_Mod_four, prog_9_method_2_code, 1, (some .boolean))
def y_Mod_greatest : MethodName := ⟨R_Mod, "greatest", "(I)I"⟩
abbrev mt_Mod_greatest : MethodName × ByteArray × Nat × Option FieldType := (y_Mod_greatest, prog_9_method_3_code, 1, (some .int))
def y_Mod_clear : MethodName := ⟨R_Mod, "clear", "(I)Z"⟩
abbrev mt_Mod_clear : MethodName × ByteArray × Nat × Option FieldType := (y_Mod_clear, prog_9_method_5_code, 2, (some .boolean))
def y_Mod_seal : MethodName := ⟨R_Mod, "seal", "(I)Z"⟩
abbrev mt_Mod_seal : MethodName × ByteArray × Nat × Option FieldType := (y_Mod_seal, prog_9_method_12_code, 5, (some .boolean))
def y_Mod_flows : MethodName := ⟨R_Mod, "flows", "(II)Z"⟩
abbrev mt_Mod_flows : MethodName × ByteArray × Nat × Option FieldType := (y_Mod_flows, prog_9_method_11_code, 7, (some .boolean))
def y_Mod_leaves : MethodName := ⟨R_Mod, "leaves", "(III)I"⟩
abbrev mt_Mod_leaves : MethodName × ByteArray × Nat × Option FieldType := (y_Mod_leaves, prog_9_method_9_code, 8, (some .int))
def y_Mod_takes : MethodName := ⟨R_Mod, "takes", "(III)I"⟩
abbrev mt_Mod_takes : MethodName × ByteArray × Nat × Option FieldType := (y_Mod_takes, prog_9_method_6_code, 3, (some .int))
def y_Mod_puts : MethodName := ⟨R_Mod, "puts", "(III)I"⟩
abbrev mt_Mod_puts : MethodName × ByteArray × Nat × Option FieldType := (y_Mod_puts, prog_9_method_7_code, 3, (some .int))
def y_Mod_size : MethodName := ⟨R_Mod, "size", "(I)I"⟩
abbrev mt_Mod_size : MethodName × ByteArray × Nat × Option FieldType := (y_Mod_size, prog_9_method_8_code, 3, (some .int))
def y_Mod_reach : MethodName := ⟨R_Mod, "reach", "(III)Z"⟩
abbrev mt_Mod_reach : MethodName × ByteArray × Nat × Option FieldType := (y_Mod_reach, prog_9_method_10_code, 5, (some .boolean))
def y_Mod_shape : MethodName := ⟨R_Mod, "shape", "(II)I"⟩
abbrev mt_Mod_shape : MethodName × ByteArray × Nat × Option FieldType := (y_Mod_shape, prog_9_method_13_code, 3, (some .int))
def y_Mod_share : MethodName := ⟨R_Mod, "share", "(III)I"⟩
abbrev mt_Mod_share : MethodName × ByteArray × Nat × Option FieldType := (y_Mod_share, prog_9_method_15_code, 4, (some .int))
def y_Mod_isShared : MethodName := ⟨R_Mod, "isShared", "(I)Z"⟩
abbrev mt_Mod_isShared : MethodName × ByteArray × Nat × Option FieldType := (y_Mod_isShared, prog_9_method_14_code, 2, (some .boolean))
def y_Mod_reserve : MethodName := ⟨R_Mod, "reserve", "(III)Z"⟩
abbrev mt_Mod_reserve : MethodName × ByteArray × Nat × Option FieldType := (y_Mod_reserve, prog_9_method_25_code, 4, (some .boolean))
def y_Mod_permit : MethodName := ⟨R_Mod, "permit", "(III)Z"⟩
abbrev mt_Mod_permit : MethodName × ByteArray × Nat × Option FieldType := (y_Mod_permit, prog_9_method_26_code, 4, (some .boolean))
def y_Mod_launch : MethodName := ⟨R_Mod, "launch", "(II)Z"⟩
abbrev mt_Mod_launch : MethodName × ByteArray × Nat × Option FieldType := (y_Mod_launch, prog_9_method_27_code, 3, (some .boolean))
def y_Mod_feed : MethodName := ⟨R_Mod, "feed", "(II)Z"⟩
abbrev mt_Mod_feed : MethodName × ByteArray × Nat × Option FieldType := (y_Mod_feed, prog_9_method_28_code, 3, (some .boolean))
def y_Mod_run : MethodName := ⟨R_Mod, "run", "(I)I"⟩
abbrev mt_Mod_run : MethodName × ByteArray × Nat × Option FieldType := (y_Mod_run, prog_9_method_43_code, 6, (some .int))
def y_Mod_alive : MethodName := ⟨R_Mod, "alive", "(I)Z"⟩
abbrev mt_Mod_alive : MethodName × ByteArray × Nat × Option FieldType := (y_Mod_alive, prog_9_method_29_code, 2, (some .boolean))
def y_Mod_end : MethodName := ⟨R_Mod, "end", "(II)V"⟩
abbrev mt_Mod_end : MethodName × ByteArray × Nat × Option FieldType := (y_Mod_end, prog_9_method_30_code, 4, none)
def y_Mod_perform : MethodName := ⟨R_Mod, "perform", "(I)Z"⟩
abbrev mt_Mod_perform : MethodName × ByteArray × Nat × Option FieldType := (y_Mod_perform, prog_9_method_42_code, 7, (some .boolean))
def y_Mod_value : MethodName := ⟨R_Mod, "value", "(II)I"⟩
abbrev mt_Mod_value : MethodName × ByteArray × Nat × Option FieldType := (y_Mod_value, prog_9_method_31_code, 3, (some .int))
def y_Mod_cellOp : MethodName := ⟨R_Mod, "cellOp", "(III)I"⟩
abbrev mt_Mod_cellOp : MethodName × ByteArray × Nat × Option FieldType := (y_Mod_cellOp, prog_9_method_34_code, 6, (some .int))
def y_Mod_room : MethodName := ⟨R_Mod, "room", "(II)Z"⟩
abbrev mt_Mod_room : MethodName × ByteArray × Nat × Option FieldType := (y_Mod_room, prog_9_method_20_code, 4, (some .boolean))
def y_Mod_counted : MethodName := ⟨R_Mod, "counted", "(IZ)I"⟩
abbrev mt_Mod_counted : MethodName × ByteArray × Nat × Option FieldType := (y_Mod_counted, prog_9_method_19_code, 5, (some .int))
def y_Mod_markLive : MethodName := ⟨R_Mod, "markLive", "(I)V"⟩
abbrev mt_Mod_markLive : MethodName × ByteArray × Nat × Option FieldType := (y_Mod_markLive, prog_9_method_18_code, 4, none)
def y_Mod_markRoot : MethodName := ⟨R_Mod, "markRoot", "(I)V"⟩
abbrev mt_Mod_markRoot : MethodName × ByteArray × Nat × Option FieldType := (y_Mod_markRoot, prog_9_method_16_code, 2, none)
def y_Mod_markAll : MethodName := ⟨R_Mod, "markAll", "()V"⟩
abbrev mt_Mod_markAll : MethodName × ByteArray × Nat × Option FieldType := (y_Mod_markAll, prog_9_method_17_code, 6, none)
def y_Mod_make : MethodName := ⟨R_Mod, "make", "(II)I"⟩
abbrev mt_Mod_make : MethodName × ByteArray × Nat × Option FieldType := (y_Mod_make, prog_9_method_21_code, 4, (some .int))
def y_Mod_become : MethodName := ⟨R_Mod, "become", "(III)V"⟩
abbrev mt_Mod_become : MethodName × ByteArray × Nat × Option FieldType := (y_Mod_become, prog_9_method_32_code, 4, none)
def y_Mod_traffic : MethodName := ⟨R_Mod, "traffic", "(III)I"⟩
abbrev mt_Mod_traffic : MethodName × ByteArray × Nat × Option FieldType := (y_Mod_traffic, prog_9_method_40_code, 4, (some .int))
def y_Mod_send : MethodName := ⟨R_Mod, "send", "(II)I"⟩
abbrev mt_Mod_send : MethodName × ByteArray × Nat × Option FieldType := (y_Mod_send, prog_9_method_35_code, 6, (some .int))
def y_Mod_toCopy : MethodName := ⟨R_Mod, "toCopy", "(I)I"⟩
abbrev mt_Mod_toCopy : MethodName × ByteArray × Nat × Option FieldType := (y_Mod_toCopy, prog_9_method_22_code, 4, (some .int))
def y_Mod_copy : MethodName := ⟨R_Mod, "copy", "(II)I"⟩
abbrev mt_Mod_copy : MethodName × ByteArray × Nat × Option FieldType := (y_Mod_copy, prog_9_method_24_code, 4, (some .int))
def y_Mod_copied : MethodName := ⟨R_Mod, "copied", "(I)I"⟩
abbrev mt_Mod_copied : MethodName × ByteArray × Nat × Option FieldType := (y_Mod_copied, prog_9_method_23_code, 2, (some .int))
def y_Mod_start : MethodName := ⟨R_Mod, "start", "(II)I"⟩
abbrev mt_Mod_start : MethodName × ByteArray × Nat × Option FieldType := (y_Mod_start, prog_9_method_36_code, 5, (some .int))
def y_Mod_stop : MethodName := ⟨R_Mod, "stop", "(II)I"⟩
abbrev mt_Mod_stop : MethodName × ByteArray × Nat × Option FieldType := (y_Mod_stop, prog_9_method_37_code, 4, (some .int))
def y_Mod_shiftMail : MethodName := ⟨R_Mod, "shiftMail", "(I)V"⟩
abbrev mt_Mod_shiftMail : MethodName × ByteArray × Nat × Option FieldType := (y_Mod_shiftMail, prog_9_method_38_code, 3, none)
def y_Mod_shiftInput : MethodName := ⟨R_Mod, "shiftInput", "(I)V"⟩
abbrev mt_Mod_shiftInput : MethodName × ByteArray × Nat × Option FieldType := (y_Mod_shiftInput, prog_9_method_39_code, 3, none)
def y_Mod_plain : MethodName := ⟨R_Mod, "plain", "(III)I"⟩
abbrev mt_Mod_plain : MethodName × ByteArray × Nat × Option FieldType := (y_Mod_plain, prog_9_method_41_code, 6, (some .int))
def y_Mod_result : MethodName := ⟨R_Mod, "result", "(III)I"⟩
abbrev mt_Mod_result : MethodName × ByteArray × Nat × Option FieldType := (y_Mod_result, prog_9_method_33_code, 3, (some .int))
def y_Mod_state : MethodName := ⟨R_Mod, "state", "(I)I"⟩
abbrev mt_Mod_state : MethodName × ByteArray × Nat × Option FieldType := (y_Mod_state, prog_9_method_44_code, 2, (some .int))
def y_Mod_steps : MethodName := ⟨R_Mod, "steps", "(I)I"⟩
abbrev mt_Mod_steps : MethodName × ByteArray × Nat × Option FieldType := (y_Mod_steps, prog_9_method_45_code, 2, (some .int))
def y_Mod_used : MethodName := ⟨R_Mod, "used", "(I)I"⟩
abbrev mt_Mod_used : MethodName × ByteArray × Nat × Option FieldType := (y_Mod_used, prog_9_method_46_code, 2, (some .int))
def y_Mod_live : MethodName := ⟨R_Mod, "live", "(I)I"⟩
abbrev mt_Mod_live : MethodName × ByteArray × Nat × Option FieldType := (y_Mod_live, prog_9_method_47_code, 2, (some .int))
def y_Mod_collections : MethodName := ⟨R_Mod, "collections", "(I)I"⟩
abbrev mt_Mod_collections : MethodName × ByteArray × Nat × Option FieldType := (y_Mod_collections, prog_9_method_48_code, 2, (some .int))
def y_Mod_ended : MethodName := ⟨R_Mod, "ended", "(I)I"⟩
abbrev mt_Mod_ended : MethodName × ByteArray × Nat × Option FieldType := (y_Mod_ended, prog_9_method_49_code, 2, (some .int))
def y_Mod_messages : MethodName := ⟨R_Mod, "messages", "(I)I"⟩
abbrev mt_Mod_messages : MethodName × ByteArray × Nat × Option FieldType := (y_Mod_messages, prog_9_method_50_code, 2, (some .int))
def y_Mod_output : MethodName := ⟨R_Mod, "output", "(II)I"⟩
abbrev mt_Mod_output : MethodName × ByteArray × Nat × Option FieldType := (y_Mod_output, prog_9_method_51_code, 3, (some .int))
def y_Mod_local : MethodName := ⟨R_Mod, "local", "(II)I"⟩
abbrev mt_Mod_local : MethodName × ByteArray × Nat × Option FieldType := (y_Mod_local, prog_9_method_52_code, 3, (some .int))
def y_Mod_look : MethodName := ⟨R_Mod, "look", "(III)I"⟩
abbrev mt_Mod_look : MethodName × ByteArray × Nat × Option FieldType := (y_Mod_look, prog_9_method_53_code, 6, (some .int))
end
section
/-! An abstract memory: a list of cells; a reference is a cell's place in it (100000 + i: the i-th fixed array). 'ad' gives the addresses, 'kc' the array classes. -/
abbrev AE : Type := (Nat × vp_A) ⊕ (Nat × List Value)
def gv (ad : Nat → Nat) (v : Value) : Value := match v with
  | .ref k => .ref (ad k)
  | .int x => .int x
  | .long x => .long x
  | .float x => .float x
  | .double x => .double x
  | .null => .null
  | .retAddr x => .retAddr x
def ga (ad : Nat → Nat) (a : vp_A) : vp_A := (a.1, match a.2 with
  | .inl f => .inl f
  | .inr (.inl f) => .inr (.inl f)
  | .inr (.inr (.inl f)) => .inr (.inr (.inl f))
  | .inr (.inr (.inr (.inl f))) => .inr (.inr (.inr (.inl f)))
  | .inr (.inr (.inr (.inr f))) => .inr (.inr (.inr (.inr (fun j => (f j).map ad)))))
def ge (kc : ClassId) (ad : Nat → Nat) (e : AE) : va_E := match e with
  | .inl x => .inl (kc, ga ad x.2)
  | .inr x => .inr (x.1, x.2.map (gv ad))
def gw (kc : Nat → ClassId) (ad : Nat → Nat) : Nat → List AE → va_W
  | _, [] => []
  | i, e :: M => (ad i, ge (kc i) ad e) :: gw kc ad (i + 1) M
theorem gw_get (kc : Nat → ClassId) (ad : Nat → Nat) : ∀ (M : List AE) (i k : Nat), (gw kc ad i M)[k]? = (M[k]?).map (fun e => (ad (i + k), ge (kc (i + k)) ad e))
  | [], i, k => by simp [gw]
  | e :: M, i, 0 => by simp [gw]
  | e :: M, i, k + 1 => by
    simp only [gw, List.getElem?_cons_succ]
    rw [gw_get kc ad M (i + 1) k, show i + 1 + k = i + (k + 1) by omega]
theorem gw_at {kc : Nat → ClassId} {ad : Nat → Nat} {M : List AE} {k : Nat} {e : AE} (h : M[k]? = some e) : (gw kc ad 0 M)[k]? = some (ad k, ge (kc k) ad e) := by
  rw [gw_get, h]; simp
theorem gw_set (kc : Nat → ClassId) (ad : Nat → Nat) : ∀ (M : List AE) (i k : Nat) (e : AE), gw kc ad i (M.set k e) = (gw kc ad i M).set k (ad (i + k), ge (kc (i + k)) ad e)
  | [], i, k, e => by simp [gw]
  | x :: M, i, 0, e => by simp [gw]
  | x :: M, i, k + 1, e => by
    simp only [List.set_cons_succ, gw]
    rw [gw_set kc ad M (i + 1) k e, show i + 1 + k = i + (k + 1) by omega]
theorem gw_set0 (kc : Nat → ClassId) (ad : Nat → Nat) (M : List AE) (k : Nat) (e : AE) : gw kc ad 0 (M.set k e) = (gw kc ad 0 M).set k (ad k, ge (kc k) ad e) := by
  have h := gw_set kc ad M 0 k e
  rwa [Nat.zero_add] at h
theorem gw_app (kc : Nat → ClassId) (ad : Nat → Nat) : ∀ (M : List AE) (i : Nat) (e : AE), gw kc ad i (M ++ [e]) = gw kc ad i M ++ [(ad (i + M.length), ge (kc (i + M.length)) ad e)]
  | [], i, e => by simp [gw]
  | x :: M, i, e => by
    simp only [List.cons_append, gw, List.length_cons]
    rw [gw_app kc ad M (i + 1) e, show i + 1 + M.length = i + (M.length + 1) by omega]
theorem gv_cat (ad : Nat → Nat) (v : Value) : (gv ad v).category = v.category := by cases v <;> rfl
def lp (ad : Nat → Nat) : Nat → List (Option Value) → List (Nat × Value)
  | _, [] => []
  | i, none :: L => lp ad (i + 1) L
  | i, some v :: L => (i, gv ad v) :: lp ad (i + 1) L
theorem lp_mem (ad : Nat → Nat) : ∀ (L : List (Option Value)) (i : Nat) (q : Nat × Value), q ∈ lp ad i L ↔ ∃ (j : Nat) (v : Value), L[j]? = some (some v) ∧ q = (i + j, gv ad v)
  | [], i, q => by simp [lp]
  | none :: L, i, q => by
    simp only [lp, lp_mem ad L (i + 1) q]
    constructor
    · rintro ⟨j, v, h, rfl⟩
      exact ⟨j + 1, v, by simpa using h, by rw [show i + 1 + j = i + (j + 1) by omega]⟩
    · rintro ⟨j, v, h, rfl⟩
      cases j with
      | zero => simp at h
      | succ j => exact ⟨j, v, by simpa using h, by rw [show i + 1 + j = i + (j + 1) by omega]⟩
  | some w :: L, i, q => by
    simp only [lp, List.mem_cons, lp_mem ad L (i + 1) q]
    constructor
    · rintro (rfl | ⟨j, v, h, rfl⟩)
      · exact ⟨0, w, by simp, by simp⟩
      · exact ⟨j + 1, v, by simpa using h, by rw [show i + 1 + j = i + (j + 1) by omega]⟩
    · rintro ⟨j, v, h, rfl⟩
      cases j with
      | zero =>
        simp at h
        exact Or.inl (by rw [h]; simp)
      | succ j => exact Or.inr ⟨j, v, by simpa using h, by rw [show i + 1 + j = i + (j + 1) by omega]⟩
theorem lp_mem0 {ad : Nat → Nat} {L : List (Option Value)} {q : Nat × Value} : q ∈ lp ad 0 L ↔ ∃ (j : Nat) (v : Value), L[j]? = some (some v) ∧ q = (j, gv ad v) := by
  rw [lp_mem]; simp
theorem lp_at {ls : Array Slot} {nL : Nat} {ad : Nat → Nat} {L : List (Option Value)} {i : Nat} {v : Value} (h : lv_has ls nL (lp ad 0 L)) (hL : L[i]? = some (some v)) : ls[i]? = some (.val (gv ad v)) :=
  h.2.2 (i, gv ad v) (lp_mem0.mpr ⟨i, v, hL, rfl⟩)
theorem lp_le {ls : Array Slot} {nL : Nat} {ad : Nat → Nat} {L L' : List (Option Value)} (h : lv_has ls nL (lp ad 0 L)) (hl : ∀ (i : Nat) (v : Value), L'[i]? = some (some v) → L[i]? = some (some v)) : lv_has ls nL (lp ad 0 L') :=
  ⟨h.1, h.2.1, fun q hq => by
    obtain ⟨j, v, hj, rfl⟩ := lp_mem0.mp hq
    exact h.2.2 _ (lp_mem0.mpr ⟨j, v, hl j v hj, rfl⟩)⟩
def kl (L : List (Option Value)) (i : Nat) : List (Option Value) := match i with
  | 0 => L
  | j + 1 => match L[j]? with
    | some (some w) => if w.category = 2 then L.set j none else L
    | _ => L
theorem kl_at {L : List (Option Value)} {i j : Nat} {w : Value} (h : (kl L i)[j]? = some (some w)) : L[j]? = some (some w) ∧ ¬ (j + 1 = i ∧ w.category = 2) := by
  unfold kl at h
  cases i with
  | zero => exact ⟨h, fun h2 => by omega⟩
  | succ i =>
    simp only at h
    by_cases hij : i = j
    · subst hij
      cases hw : L[i]? with
      | none => rw [hw] at h; simp only at h; rw [hw] at h; cases h
      | some o =>
        cases o with
        | none => rw [hw] at h; simp only at h; rw [hw] at h; cases h
        | some u =>
          rw [hw] at h
          simp only at h
          by_cases hc : u.category = 2
          · rw [if_pos hc, List.getElem?_set] at h
            simp only [if_true] at h
            split at h <;> cases h
          · rw [if_neg hc, hw] at h
            cases h
            exact ⟨rfl, fun h2 => hc h2.2⟩
    · have h3 : L[j]? = some (some w) := by
        revert h
        split
        · split
          · intro h
            rwa [List.getElem?_set_ne hij] at h
          · exact id
        · exact id
      exact ⟨h3, fun h2 => hij (by omega)⟩
def st1 (L : List (Option Value)) (i : Nat) (v : Value) : List (Option Value) := (kl L i).set i (some v)
def st2 (L : List (Option Value)) (i : Nat) (v : Value) : List (Option Value) := ((kl L i).set i (some v)).set (i + 1) none
theorem lp_st1 {ls : Array Slot} {nL : Nat} {ad : Nat → Nat} {L : List (Option Value)} {i : Nat} {v : Value} (h : lv_has ls nL ((i, gv ad v) :: (lp ad 0 L).filter (fun q => !(q.1 == i) && !(q.1 + 1 == i && q.2.category == 2)))) : lv_has ls nL (lp ad 0 (st1 L i v)) := by
  refine ⟨h.1, h.2.1, fun q hq => h.2.2 q ?_⟩
  obtain ⟨j, w, hj, rfl⟩ := lp_mem0.mp hq
  unfold st1 at hj
  by_cases hij : i = j
  · subst hij
    rw [List.getElem?_set] at hj
    simp only [if_true] at hj
    split at hj
    · cases hj
      exact List.mem_cons_self
    · cases hj
  · rw [List.getElem?_set_ne hij] at hj
    obtain ⟨h1, h2⟩ := kl_at hj
    refine List.mem_cons_of_mem _ (List.mem_filter.mpr ⟨lp_mem0.mpr ⟨j, w, h1, rfl⟩, ?_⟩)
    have hji : ¬ j = i := fun e => hij e.symm
    simp only [gv_cat, Bool.and_eq_true, Bool.not_eq_true', beq_eq_false_iff_ne, ne_eq, Bool.and_eq_false_iff]
    refine ⟨hji, ?_⟩
    by_cases h3 : j + 1 = i
    · exact Or.inr fun h4 => h2 ⟨h3, h4⟩
    · exact Or.inl h3
theorem lp_st2 {ls : Array Slot} {nL : Nat} {ad : Nat → Nat} {L : List (Option Value)} {i : Nat} {v : Value} (h : lv_has ls nL ((i, gv ad v) :: (lp ad 0 L).filter (fun q => !(q.1 == i) && (!(q.1 == i + 1) && !(q.1 + 1 == i && q.2.category == 2))))) : lv_has ls nL (lp ad 0 (st2 L i v)) := by
  refine ⟨h.1, h.2.1, fun q hq => h.2.2 q ?_⟩
  obtain ⟨j, w, hj, rfl⟩ := lp_mem0.mp hq
  unfold st2 at hj
  by_cases h1j : i + 1 = j
  · subst h1j
    rw [List.getElem?_set] at hj
    simp only [if_true] at hj
    split at hj <;> cases hj
  rw [List.getElem?_set_ne h1j] at hj
  by_cases hij : i = j
  · subst hij
    rw [List.getElem?_set] at hj
    simp only [if_true] at hj
    split at hj
    · cases hj
      exact List.mem_cons_self
    · cases hj
  · rw [List.getElem?_set_ne hij] at hj
    obtain ⟨h1, h2⟩ := kl_at hj
    refine List.mem_cons_of_mem _ (List.mem_filter.mpr ⟨lp_mem0.mpr ⟨j, w, h1, rfl⟩, ?_⟩)
    have hji : ¬ j = i := fun e => hij e.symm
    have hji1 : ¬ j = i + 1 := fun e => h1j e.symm
    simp only [gv_cat, Bool.and_eq_true, Bool.not_eq_true', beq_eq_false_iff_ne, ne_eq, Bool.and_eq_false_iff]
    refine ⟨hji, hji1, ?_⟩
    by_cases h3 : j + 1 = i
    · exact Or.inr fun h4 => h2 ⟨h3, h4⟩
    · exact Or.inl h3
/-- a method: name, bytes, how many locals, what it returns -/
abbrev Mt : Type := MethodName × ByteArray × Nat × Option FieldType
def isNest : Cond → Bool
  | .fieldLinkNest .. => true
  | .methodLinkNest .. => true
  | _ => false
def gin (w : Cond) : Prop := w ∈ lw_tbl ∧ goodWord w = true
def nin (w : Cond) : Prop := w ∈ lw_tbl ∧ isNest w = true
theorem nest_tab {w : Cond} (h : isNest w = true) : w.onTables = true := by
  cases w <;> first | rfl | (cases h)
theorem nest_warm {w : Cond} (h : isNest w = true) {s U : State} (hW : s.WarmedH U.vm) (hZ : va_Nw w s) : va_Nw w U := by
  cases w with
  | fieldLinkNest a i b n d h => exact va_Nw.warmF hW hZ
  | methodLinkNest a i x h => exact va_Nw.warmM hW hZ
  | _ => cases h
theorem good_of {w : Cond} (h : goodWord w = true) : (w.onTables && w.keeps) = true ∨ ∃ ty, w = .arrayClass ty := by
  cases w <;> first | exact Or.inl h | exact Or.inr ⟨_, rfl⟩
def Ev (Y : Mt) (p : Program) (s : State) (m : MethodId) (args : Array Value) (meth : Method) (c : Code) : Prop :=
  p.tables.exec = Jvm.exec ∧ c.code = Y.2.1 ∧ c.maxLocals = Y.2.2.1 ∧ meth.sig.returnType = Y.2.2.2 ∧ meth.locks = false ∧ s.vm.findClass Y.1.cls = some m.cls ∧ (∀ w, gin w → w.before args s = true) ∧ (∀ w, nin w → va_Nw w s) ∧ meth.name = Y.1.name
def Wd (D : va_G) (kc : Nat → ClassId) (ad : Nat → Nat) (M : List AE) (s : State) (H : Heap) : Prop :=
  va_P D gcl (gw kc ad 0 M) H ∧ va_K D gcl [] s ∧ ∀ (k t : Nat) (a : vp_A), M[k]? = some (.inl (t, a)) → va_K D gcl [(kc k, tyk t)] s
/-- a launch, and what else is known of one fixed cell (the law's script) -/
abbrev Lx : Type := Launch × (Nat → (Nat → Prop) → State → Prop)
def mT : Nat → (Nat → Prop) → State → Prop := fun _ _ _ => True
def mE (l : Launch) : Lx := (l, mT)
/-- the fixed arrays: their fields in the tables, their contents, none of them in A -/
def Sta (T : Nat → (Nat → Prop) → State → Prop) (ad : Nat → Nat) (A : Nat → Prop) (s : State) (H : Heap) : Prop := (∀ i, i < 3 →
  va_Z sta_C (sta_n i) "[I" (.ref (ad (100000 + i))) A s H ∧ va_X (ad (100000 + i)) 25 (sta_v i) s H ∧ ad (100000 + i) < H.size ∧ ¬ A (ad (100000 + i))) ∧ T (ad 100003) A s
def Agr (al : Bool) (n : Nat) (kc kc' : Nat → ClassId) (ad ad' : Nat → Nat) : Prop := match al with
  | true => (∀ k, k < n → kc' k = kc k) ∧ ∀ k, k < n ∨ 100000 ≤ k → ad' k = ad k
  | false => kc' = kc ∧ ad' = ad
theorem Agr.rf {al : Bool} {n : Nat} {kc : Nat → ClassId} {ad : Nat → Nat} : Agr al n kc kc ad ad := by
  cases al
  · exact ⟨rfl, rfl⟩
  · exact ⟨fun _ _ => rfl, fun _ _ => rfl⟩
def RetOK (Y : Mt) (r : Option Value) (pc : Nat) : Prop := match Y.2.2.2, r with
  | none, none => decode Y.2.1 pc = .ok (.return_, 1)
  | some .int, some (.int _) => decode Y.2.1 pc = .ok (.ireturn, 1)
  | some .boolean, some (.int v) => narrow .boolean (.int v) = .int v ∧ decode Y.2.1 pc = .ok (.ireturn, 1)
  | some .long, some (.long _) => decode Y.2.1 pc = .ok (.lreturn, 1)
  | some (.array _), some (.ref _) => decode Y.2.1 pc = .ok (.areturn, 1)
  | _, _ => False
abbrev Post : Type := Option Value → List AE → Prop
def Fn (E : Lx) (Y : Mt) (al : Bool) (R : Room) (n : Nat) (Φ : Post) (p : Program) (e : Env) (s : State) (m : MethodId) (args : Array Value) (below : List Frame) (meth : Method) (c : Code) (D : va_G) (kc : Nat → ClassId) (ad : Nat → Nat) (A : Nat → Prop) (Q : State → Prop) : Prop :=
  ∀ (r : Option Value) (M' : List AE) (kc' : Nat → ClassId) (ad' : Nat → Nat) (H' : Heap) (locs' : List Loc) (cs' ss' pc' : Nat) (ls' : Array Slot), Φ r M' → RetOK Y r pc' → n ≤ M'.length → Agr al n kc kc' ad ad' → Wd D kc' ad' M' s H' → va_D A (gw kc' ad' 0 M') → va_S A s.heap H' locs' → cs' ≤ R.cells → ss' ≤ R.slots → W p E.1 e R s m args below meth c H' locs' cs' ss' Q (F0 m pc' ls' (r.map (gv ad')).toList)
def Cx (E : Lx) (Y : Mt) (al : Bool) (R : Room) (cs ss : Nat) (L : List (Option Value)) (M : List AE) (Φ : Post) (p : Program) (e : Env) (s : State) (m : MethodId) (args : Array Value) (below : List Frame) (meth : Method) (c : Code) (D : va_G) (kc : Nat → ClassId) (ad : Nat → Nat) (A : Nat → Prop) (H : Heap) (locs : List Loc) (ls : Array Slot) (Q : State → Prop) : Prop :=
  Ev Y p s m args meth c ∧ Wd D kc ad M s H ∧ va_D A (gw kc ad 0 M) ∧ va_S A s.heap H locs ∧ (∀ q, s.heap.size ≤ q → A q) ∧ Sta E.2 ad A s s.heap ∧ lv_has ls Y.2.2.1 (lp ad 0 L) ∧ cs ≤ R.cells ∧ ss ≤ R.slots ∧ Fn E Y al R M.length Φ p e s m args below meth c D kc ad A Q
/-- from the instruction at pc, with locals L, stack st and memory M, method Y comes to its return with Φ -/
def Go (E : Lx) (Y : Mt) (al : Bool) (R : Room) (cs ss pc : Nat) (L : List (Option Value)) (st : List Value) (M : List AE) (Φ : Post) : Prop :=
  ∀ (p : Program) (e : Env) (s : State) (m : MethodId) (args : Array Value) (below : List Frame) (meth : Method) (c : Code) (D : va_G) (kc : Nat → ClassId) (ad : Nat → Nat) (A : Nat → Prop) (H : Heap) (locs : List Loc) (ls : Array Slot) (Q : State → Prop),
    Cx E Y al R cs ss L M Φ p e s m args below meth c D kc ad A H locs ls Q → W p E.1 e R s m args below meth c H locs cs ss Q (F0 m pc ls (st.map (gv ad)))
section GORULES
variable {E : Lx} {Y : Mt} {al : Bool} {R : Room} {cs ss pc : Nat} {L : List (Option Value)} {st : List Value} {M : List AE} {Φ : Post}
theorem go_ret {r : Option Value} (hr : RetOK Y r pc) (h : Φ r M) : Go E Y al R cs ss pc L r.toList M Φ := by
  intro p e s m args below meth c D kc ad A H locs ls Q X
  obtain ⟨hE, hW, hD, hS, hA, hT, hl, hc, hs, hf⟩ := X
  have h1 := hf r M kc ad H locs cs ss pc ls h hr (Nat.le_refl _) Agr.rf hW hD hS hc hs
  cases r with
  | none => exact h1
  | some v => exact h1
theorem go_weak {L' : List (Option Value)} (hl : ∀ (i : Nat) (v : Value), L'[i]? = some (some v) → L[i]? = some (some v)) (k : Go E Y al R cs ss pc L' st M Φ) : Go E Y al R cs ss pc L st M Φ :=
  fun p e s m args below meth c D kc ad A H locs ls Q X => k p e s m args below meth c D kc ad A H locs ls Q ⟨X.1, X.2.1, X.2.2.1, X.2.2.2.1, X.2.2.2.2.1, X.2.2.2.2.2.1, lp_le X.2.2.2.2.2.2.1 hl, X.2.2.2.2.2.2.2⟩
theorem go_post {Ψ : Post} (h : ∀ r M', Ψ r M' → Φ r M') (k : Go E Y al R cs ss pc L st M Ψ) : Go E Y al R cs ss pc L st M Φ :=
  fun p e s m args below meth c D kc ad A H locs ls Q X => k p e s m args below meth c D kc ad A H locs ls Q ⟨X.1, X.2.1, X.2.2.1, X.2.2.2.1, X.2.2.2.2.1, X.2.2.2.2.2.1, X.2.2.2.2.2.2.1, X.2.2.2.2.2.2.2.1, X.2.2.2.2.2.2.2.2.1, fun r M' kc' ad' H' locs' cs' ss' pc' ls' hp => X.2.2.2.2.2.2.2.2.2 r M' kc' ad' H' locs' cs' ss' pc' ls' (h r M' hp)⟩
theorem go_iconst {n : Int} {v : Int32} (d : decode Y.2.1 pc = .ok (.iconst n, 1)) (hv : Int32.ofInt n = v) (k : Go E Y al R cs ss (pc + 1) L (.int v :: st) M Φ) : Go E Y al R cs ss pc L (st) M Φ :=
  fun p e s m args below meth c D kc ad A H locs ls Q X => lv_iconst X.1.1 X.1.2.1 d hv (k p e s m args below meth c D kc ad A H locs ls Q X)
theorem go_bipush {n : Int} {v : Int32} (d : decode Y.2.1 pc = .ok (.bipush n, 2)) (hv : (Int8.ofInt n).toInt32 = v) (k : Go E Y al R cs ss (pc + 2) L (.int v :: st) M Φ) : Go E Y al R cs ss pc L (st) M Φ :=
  fun p e s m args below meth c D kc ad A H locs ls Q X => lv_bipush X.1.1 X.1.2.1 d hv (k p e s m args below meth c D kc ad A H locs ls Q X)
theorem go_sipush {n : Int} {v : Int32} (d : decode Y.2.1 pc = .ok (.sipush n, 3)) (hv : (Int16.ofInt n).toInt32 = v) (k : Go E Y al R cs ss (pc + 3) L (.int v :: st) M Φ) : Go E Y al R cs ss pc L (st) M Φ :=
  fun p e s m args below meth c D kc ad A H locs ls Q X => lv_sipush X.1.1 X.1.2.1 d hv (k p e s m args below meth c D kc ad A H locs ls Q X)
theorem go_lconst {n : Fin 2} {v : Int64} (d : decode Y.2.1 pc = .ok (.lconst n, 1)) (hv : Int64.ofNat (n : Nat) = v) (k : Go E Y al R cs ss (pc + 1) L (.long v :: st) M Φ) : Go E Y al R cs ss pc L (st) M Φ :=
  fun p e s m args below meth c D kc ad A H locs ls Q X => lv_lconst X.1.1 X.1.2.1 d hv (k p e s m args below meth c D kc ad A H locs ls Q X)
theorem go_iload {i : Nat} {x : Int32} (d : decode Y.2.1 pc = .ok (.iload i, 2)) (hl : L[i]? = some (some (.int x))) (k : Go E Y al R cs ss (pc + 2) L (.int x :: st) M Φ) : Go E Y al R cs ss pc L (st) M Φ :=
  fun p e s m args below meth c D kc ad A H locs ls Q X => lv_iload X.1.1 X.1.2.1 d (lp_at X.2.2.2.2.2.2.1 hl) (k p e s m args below meth c D kc ad A H locs ls Q X)
theorem go_iload_n {j : Fin 4} {i : Nat} {x : Int32} (d : decode Y.2.1 pc = .ok (.iload_n j, 1)) (hi : (j : Nat) = i) (hl : L[i]? = some (some (.int x))) (k : Go E Y al R cs ss (pc + 1) L (.int x :: st) M Φ) : Go E Y al R cs ss pc L (st) M Φ :=
  fun p e s m args below meth c D kc ad A H locs ls Q X => lv_iload_n X.1.1 X.1.2.1 d hi (lp_at X.2.2.2.2.2.2.1 hl) (k p e s m args below meth c D kc ad A H locs ls Q X)
theorem go_lload {i : Nat} {x : Int64} (d : decode Y.2.1 pc = .ok (.lload i, 2)) (hl : L[i]? = some (some (.long x))) (k : Go E Y al R cs ss (pc + 2) L (.long x :: st) M Φ) : Go E Y al R cs ss pc L (st) M Φ :=
  fun p e s m args below meth c D kc ad A H locs ls Q X => lv_lload X.1.1 X.1.2.1 d (lp_at X.2.2.2.2.2.2.1 hl) (k p e s m args below meth c D kc ad A H locs ls Q X)
theorem go_lload_n {j : Fin 4} {i : Nat} {x : Int64} (d : decode Y.2.1 pc = .ok (.lload_n j, 1)) (hi : (j : Nat) = i) (hl : L[i]? = some (some (.long x))) (k : Go E Y al R cs ss (pc + 1) L (.long x :: st) M Φ) : Go E Y al R cs ss pc L (st) M Φ :=
  fun p e s m args below meth c D kc ad A H locs ls Q X => lv_lload_n X.1.1 X.1.2.1 d hi (lp_at X.2.2.2.2.2.2.1 hl) (k p e s m args below meth c D kc ad A H locs ls Q X)
theorem go_aload {i : Nat} {x : Nat} (d : decode Y.2.1 pc = .ok (.aload i, 2)) (hl : L[i]? = some (some (.ref x))) (k : Go E Y al R cs ss (pc + 2) L (.ref x :: st) M Φ) : Go E Y al R cs ss pc L (st) M Φ :=
  fun p e s m args below meth c D kc ad A H locs ls Q X => lv_aload X.1.1 X.1.2.1 d (lp_at X.2.2.2.2.2.2.1 hl) (k p e s m args below meth c D kc ad A H locs ls Q X)
theorem go_aload_n {j : Fin 4} {i : Nat} {x : Nat} (d : decode Y.2.1 pc = .ok (.aload_n j, 1)) (hi : (j : Nat) = i) (hl : L[i]? = some (some (.ref x))) (k : Go E Y al R cs ss (pc + 1) L (.ref x :: st) M Φ) : Go E Y al R cs ss pc L (st) M Φ :=
  fun p e s m args below meth c D kc ad A H locs ls Q X => lv_aload_n X.1.1 X.1.2.1 d hi (lp_at X.2.2.2.2.2.2.1 hl) (k p e s m args below meth c D kc ad A H locs ls Q X)
theorem go_istore {i : Nat} {x : Int32} {L' : List (Option Value)} (d : decode Y.2.1 pc = .ok (.istore i, 2)) (hn : i < Y.2.2.1) (hl : st1 L i (.int x) = L') (k : Go E Y al R cs ss (pc + 2) L' st M Φ) : Go E Y al R cs ss pc L (.int x :: st) M Φ := by
  subst hl
  exact fun p e s m args below meth c D kc ad A H locs ls Q X => lv_istore X.1.1 X.1.2.1 d X.2.2.2.2.2.2.1 hn rfl (fun ls' h => k p e s m args below meth c D kc ad A H locs ls' Q ⟨X.1, X.2.1, X.2.2.1, X.2.2.2.1, X.2.2.2.2.1, X.2.2.2.2.2.1, lp_st1 h, X.2.2.2.2.2.2.2⟩)
theorem go_istore_n {j : Fin 4} {i : Nat} {x : Int32} {L' : List (Option Value)} (d : decode Y.2.1 pc = .ok (.istore_n j, 1)) (hi : (j : Nat) = i) (hn : i < Y.2.2.1) (hl : st1 L i (.int x) = L') (k : Go E Y al R cs ss (pc + 1) L' st M Φ) : Go E Y al R cs ss pc L (.int x :: st) M Φ := by
  subst hl
  exact fun p e s m args below meth c D kc ad A H locs ls Q X => lv_istore_n X.1.1 X.1.2.1 d hi X.2.2.2.2.2.2.1 hn rfl (fun ls' h => k p e s m args below meth c D kc ad A H locs ls' Q ⟨X.1, X.2.1, X.2.2.1, X.2.2.2.1, X.2.2.2.2.1, X.2.2.2.2.2.1, lp_st1 h, X.2.2.2.2.2.2.2⟩)
theorem go_lstore {i : Nat} {x : Int64} {L' : List (Option Value)} (d : decode Y.2.1 pc = .ok (.lstore i, 2)) (hn : i + 1 < Y.2.2.1) (hl : st2 L i (.long x) = L') (k : Go E Y al R cs ss (pc + 2) L' st M Φ) : Go E Y al R cs ss pc L (.long x :: st) M Φ := by
  subst hl
  exact fun p e s m args below meth c D kc ad A H locs ls Q X => lv_lstore X.1.1 X.1.2.1 d X.2.2.2.2.2.2.1 hn rfl (fun ls' h => k p e s m args below meth c D kc ad A H locs ls' Q ⟨X.1, X.2.1, X.2.2.1, X.2.2.2.1, X.2.2.2.2.1, X.2.2.2.2.2.1, lp_st2 h, X.2.2.2.2.2.2.2⟩)
theorem go_lstore_n {j : Fin 4} {i : Nat} {x : Int64} {L' : List (Option Value)} (d : decode Y.2.1 pc = .ok (.lstore_n j, 1)) (hi : (j : Nat) = i) (hn : i + 1 < Y.2.2.1) (hl : st2 L i (.long x) = L') (k : Go E Y al R cs ss (pc + 1) L' st M Φ) : Go E Y al R cs ss pc L (.long x :: st) M Φ := by
  subst hl
  exact fun p e s m args below meth c D kc ad A H locs ls Q X => lv_lstore_n X.1.1 X.1.2.1 d hi X.2.2.2.2.2.2.1 hn rfl (fun ls' h => k p e s m args below meth c D kc ad A H locs ls' Q ⟨X.1, X.2.1, X.2.2.1, X.2.2.2.1, X.2.2.2.2.1, X.2.2.2.2.2.1, lp_st2 h, X.2.2.2.2.2.2.2⟩)
theorem go_astore {i : Nat} {x : Nat} {L' : List (Option Value)} (d : decode Y.2.1 pc = .ok (.astore i, 2)) (hn : i < Y.2.2.1) (hl : st1 L i (.ref x) = L') (k : Go E Y al R cs ss (pc + 2) L' st M Φ) : Go E Y al R cs ss pc L (.ref x :: st) M Φ := by
  subst hl
  exact fun p e s m args below meth c D kc ad A H locs ls Q X => lv_astore X.1.1 X.1.2.1 d X.2.2.2.2.2.2.1 hn rfl (fun ls' h => k p e s m args below meth c D kc ad A H locs ls' Q ⟨X.1, X.2.1, X.2.2.1, X.2.2.2.1, X.2.2.2.2.1, X.2.2.2.2.2.1, lp_st1 h, X.2.2.2.2.2.2.2⟩)
theorem go_astore_n {j : Fin 4} {i : Nat} {x : Nat} {L' : List (Option Value)} (d : decode Y.2.1 pc = .ok (.astore_n j, 1)) (hi : (j : Nat) = i) (hn : i < Y.2.2.1) (hl : st1 L i (.ref x) = L') (k : Go E Y al R cs ss (pc + 1) L' st M Φ) : Go E Y al R cs ss pc L (.ref x :: st) M Φ := by
  subst hl
  exact fun p e s m args below meth c D kc ad A H locs ls Q X => lv_astore_n X.1.1 X.1.2.1 d hi X.2.2.2.2.2.2.1 hn rfl (fun ls' h => k p e s m args below meth c D kc ad A H locs ls' Q ⟨X.1, X.2.1, X.2.2.1, X.2.2.2.1, X.2.2.2.2.1, X.2.2.2.2.2.1, lp_st1 h, X.2.2.2.2.2.2.2⟩)
theorem go_iinc {i : Nat} {n : Int} {x v : Int32} {L' : List (Option Value)} (d : decode Y.2.1 pc = .ok (.iinc i n, 3)) (hx : L[i]? = some (some (.int x))) (hv : x + Int32.ofInt n = v) (hn : i < Y.2.2.1) (hl : st1 L i (.int v) = L') (k : Go E Y al R cs ss (pc + 3) L' st M Φ) : Go E Y al R cs ss pc L st M Φ := by
  subst hl
  intro p e s m args below meth c D kc ad A H locs ls Q X
  obtain ⟨q, hq⟩ := List.mem_iff_getElem?.mp (lp_mem0.mpr ⟨i, _, hx, rfl⟩ : (i, gv ad (.int x)) ∈ lp ad 0 L)
  exact lv_iinc (k := q) X.1.1 X.1.2.1 d X.2.2.2.2.2.2.1 hq hv hn rfl (fun ls' h => k p e s m args below meth c D kc ad A H locs ls' Q ⟨X.1, X.2.1, X.2.2.1, X.2.2.2.1, X.2.2.2.2.1, X.2.2.2.2.2.1, lp_st1 h, X.2.2.2.2.2.2.2⟩)
theorem go_iadd {x y : Int32} (d : decode Y.2.1 pc = .ok (.iadd, 1)) (k : Go E Y al R cs ss (pc + 1) L (.int (x + y) :: st) M Φ) : Go E Y al R cs ss pc L (.int y :: .int x :: st) M Φ :=
  fun p e s m args below meth c D kc ad A H locs ls Q X => lv_iadd X.1.1 X.1.2.1 d (k p e s m args below meth c D kc ad A H locs ls Q X)
theorem go_isub {x y : Int32} (d : decode Y.2.1 pc = .ok (.isub, 1)) (k : Go E Y al R cs ss (pc + 1) L (.int (x - y) :: st) M Φ) : Go E Y al R cs ss pc L (.int y :: .int x :: st) M Φ :=
  fun p e s m args below meth c D kc ad A H locs ls Q X => lv_isub X.1.1 X.1.2.1 d (k p e s m args below meth c D kc ad A H locs ls Q X)
theorem go_imul {x y : Int32} (d : decode Y.2.1 pc = .ok (.imul, 1)) (k : Go E Y al R cs ss (pc + 1) L (.int (x * y) :: st) M Φ) : Go E Y al R cs ss pc L (.int y :: .int x :: st) M Φ :=
  fun p e s m args below meth c D kc ad A H locs ls Q X => lv_imul X.1.1 X.1.2.1 d (k p e s m args below meth c D kc ad A H locs ls Q X)
theorem go_iand {x y : Int32} (d : decode Y.2.1 pc = .ok (.iand, 1)) (k : Go E Y al R cs ss (pc + 1) L (.int (x &&& y) :: st) M Φ) : Go E Y al R cs ss pc L (.int y :: .int x :: st) M Φ :=
  fun p e s m args below meth c D kc ad A H locs ls Q X => lv_iand X.1.1 X.1.2.1 d (k p e s m args below meth c D kc ad A H locs ls Q X)
theorem go_ior {x y : Int32} (d : decode Y.2.1 pc = .ok (.ior, 1)) (k : Go E Y al R cs ss (pc + 1) L (.int (x ||| y) :: st) M Φ) : Go E Y al R cs ss pc L (.int y :: .int x :: st) M Φ :=
  fun p e s m args below meth c D kc ad A H locs ls Q X => lv_ior X.1.1 X.1.2.1 d (k p e s m args below meth c D kc ad A H locs ls Q X)
theorem go_ixor {x y : Int32} (d : decode Y.2.1 pc = .ok (.ixor, 1)) (k : Go E Y al R cs ss (pc + 1) L (.int (x ^^^ y) :: st) M Φ) : Go E Y al R cs ss pc L (.int y :: .int x :: st) M Φ :=
  fun p e s m args below meth c D kc ad A H locs ls Q X => lv_ixor X.1.1 X.1.2.1 d (k p e s m args below meth c D kc ad A H locs ls Q X)
theorem go_ishl {x y : Int32} (d : decode Y.2.1 pc = .ok (.ishl, 1)) (k : Go E Y al R cs ss (pc + 1) L (.int (x <<< (y &&& 31)) :: st) M Φ) : Go E Y al R cs ss pc L (.int y :: .int x :: st) M Φ :=
  fun p e s m args below meth c D kc ad A H locs ls Q X => lv_ishl X.1.1 X.1.2.1 d (k p e s m args below meth c D kc ad A H locs ls Q X)
theorem go_ishr {x y : Int32} (d : decode Y.2.1 pc = .ok (.ishr, 1)) (k : Go E Y al R cs ss (pc + 1) L (.int (x >>> (y &&& 31)) :: st) M Φ) : Go E Y al R cs ss pc L (.int y :: .int x :: st) M Φ :=
  fun p e s m args below meth c D kc ad A H locs ls Q X => lv_ishr X.1.1 X.1.2.1 d (k p e s m args below meth c D kc ad A H locs ls Q X)
theorem go_idiv {x y : Int32} (d : decode Y.2.1 pc = .ok (.idiv, 1)) (hne : ¬ y = 0) (k : Go E Y al R cs ss (pc + 1) L (.int (x / y) :: st) M Φ) : Go E Y al R cs ss pc L (.int y :: .int x :: st) M Φ :=
  fun p e s m args below meth c D kc ad A H locs ls Q X => lv_idiv X.1.1 X.1.2.1 d hne (k p e s m args below meth c D kc ad A H locs ls Q X)
theorem go_irem {x y : Int32} (d : decode Y.2.1 pc = .ok (.irem, 1)) (hne : ¬ y = 0) (k : Go E Y al R cs ss (pc + 1) L (.int (x - x / y * y) :: st) M Φ) : Go E Y al R cs ss pc L (.int y :: .int x :: st) M Φ :=
  fun p e s m args below meth c D kc ad A H locs ls Q X => lv_irem X.1.1 X.1.2.1 d hne (k p e s m args below meth c D kc ad A H locs ls Q X)
theorem go_ladd {x y : Int64} (d : decode Y.2.1 pc = .ok (.ladd, 1)) (k : Go E Y al R cs ss (pc + 1) L (.long (x + y) :: st) M Φ) : Go E Y al R cs ss pc L (.long y :: .long x :: st) M Φ :=
  fun p e s m args below meth c D kc ad A H locs ls Q X => lv_ladd X.1.1 X.1.2.1 d (k p e s m args below meth c D kc ad A H locs ls Q X)
theorem go_lsub {x y : Int64} (d : decode Y.2.1 pc = .ok (.lsub, 1)) (k : Go E Y al R cs ss (pc + 1) L (.long (x - y) :: st) M Φ) : Go E Y al R cs ss pc L (.long y :: .long x :: st) M Φ :=
  fun p e s m args below meth c D kc ad A H locs ls Q X => lv_lsub X.1.1 X.1.2.1 d (k p e s m args below meth c D kc ad A H locs ls Q X)
theorem go_land {x y : Int64} (d : decode Y.2.1 pc = .ok (.land, 1)) (k : Go E Y al R cs ss (pc + 1) L (.long (x &&& y) :: st) M Φ) : Go E Y al R cs ss pc L (.long y :: .long x :: st) M Φ :=
  fun p e s m args below meth c D kc ad A H locs ls Q X => lv_land X.1.1 X.1.2.1 d (k p e s m args below meth c D kc ad A H locs ls Q X)
theorem go_lor {x y : Int64} (d : decode Y.2.1 pc = .ok (.lor, 1)) (k : Go E Y al R cs ss (pc + 1) L (.long (x ||| y) :: st) M Φ) : Go E Y al R cs ss pc L (.long y :: .long x :: st) M Φ :=
  fun p e s m args below meth c D kc ad A H locs ls Q X => lv_lor X.1.1 X.1.2.1 d (k p e s m args below meth c D kc ad A H locs ls Q X)
theorem go_lshl {x : Int64} {y : Int32} (d : decode Y.2.1 pc = .ok (.lshl, 1)) (k : Go E Y al R cs ss (pc + 1) L (.long (x <<< (y.toInt64 &&& 63)) :: st) M Φ) : Go E Y al R cs ss pc L (.int y :: .long x :: st) M Φ :=
  fun p e s m args below meth c D kc ad A H locs ls Q X => lv_lshl X.1.1 X.1.2.1 d rfl (k p e s m args below meth c D kc ad A H locs ls Q X)
theorem go_lshr {x : Int64} {y : Int32} (d : decode Y.2.1 pc = .ok (.lshr, 1)) (k : Go E Y al R cs ss (pc + 1) L (.long (x >>> (y.toInt64 &&& 63)) :: st) M Φ) : Go E Y al R cs ss pc L (.int y :: .long x :: st) M Φ :=
  fun p e s m args below meth c D kc ad A H locs ls Q X => lv_lshr X.1.1 X.1.2.1 d rfl (k p e s m args below meth c D kc ad A H locs ls Q X)
def ushrL (x : Int64) (y : Int32) : Int64 := (x.toUInt64 >>> (y.toInt64.toUInt64 &&& Int64.toUInt64 63)).toInt64
theorem go_lushr {x : Int64} {y : Int32} (d : decode Y.2.1 pc = .ok (.lushr, 1)) (k : Go E Y al R cs ss (pc + 1) L (.long (ushrL x y) :: st) M Φ) : Go E Y al R cs ss pc L (.int y :: .long x :: st) M Φ :=
  fun p e s m args below meth c D kc ad A H locs ls Q X => lv_lushr X.1.1 X.1.2.1 d rfl (k p e s m args below meth c D kc ad A H locs ls Q X)
theorem go_i2l {x : Int32} (d : decode Y.2.1 pc = .ok (.i2l, 1)) (k : Go E Y al R cs ss (pc + 1) L (.long x.toInt64 :: st) M Φ) : Go E Y al R cs ss pc L (.int x :: st) M Φ :=
  fun p e s m args below meth c D kc ad A H locs ls Q X => lv_i2l X.1.1 X.1.2.1 d rfl (k p e s m args below meth c D kc ad A H locs ls Q X)
theorem go_l2i {x : Int64} (d : decode Y.2.1 pc = .ok (.l2i, 1)) (k : Go E Y al R cs ss (pc + 1) L (.int x.toInt32 :: st) M Φ) : Go E Y al R cs ss pc L (.long x :: st) M Φ :=
  fun p e s m args below meth c D kc ad A H locs ls Q X => lv_l2i X.1.1 X.1.2.1 d rfl (k p e s m args below meth c D kc ad A H locs ls Q X)
theorem go_dup {va : Value} (d : decode Y.2.1 pc = .ok (.dup, 1)) (hva : va.category = 1) (k : Go E Y al R cs ss (pc + 1) L (va :: va :: st) M Φ) : Go E Y al R cs ss pc L (va :: st) M Φ :=
  fun p e s m args below meth c D kc ad A H locs ls Q X => lv_dup X.1.1 X.1.2.1 d ((gv_cat _ _).trans hva) (k p e s m args below meth c D kc ad A H locs ls Q X)
theorem go_pop {va : Value} (d : decode Y.2.1 pc = .ok (.pop, 1)) (hva : va.category = 1) (k : Go E Y al R cs ss (pc + 1) L (st) M Φ) : Go E Y al R cs ss pc L (va :: st) M Φ :=
  fun p e s m args below meth c D kc ad A H locs ls Q X => lv_pop X.1.1 X.1.2.1 d ((gv_cat _ _).trans hva) (k p e s m args below meth c D kc ad A H locs ls Q X)
theorem go_dup_x1 {va vb : Value} (d : decode Y.2.1 pc = .ok (.dup_x1, 1)) (hva : va.category = 1) (hvb : vb.category = 1) (k : Go E Y al R cs ss (pc + 1) L (va :: vb :: va :: st) M Φ) : Go E Y al R cs ss pc L (va :: vb :: st) M Φ :=
  fun p e s m args below meth c D kc ad A H locs ls Q X => lv_dup_x1 X.1.1 X.1.2.1 d ((gv_cat _ _).trans hva) ((gv_cat _ _).trans hvb) (k p e s m args below meth c D kc ad A H locs ls Q X)
theorem go_dup_x2 {va vb vd : Value} (d : decode Y.2.1 pc = .ok (.dup_x2, 1)) (hva : va.category = 1) (hvb : vb.category = 1) (hvd : vd.category = 1) (k : Go E Y al R cs ss (pc + 1) L (va :: vb :: vd :: va :: st) M Φ) : Go E Y al R cs ss pc L (va :: vb :: vd :: st) M Φ :=
  fun p e s m args below meth c D kc ad A H locs ls Q X => lv_dup_x2 X.1.1 X.1.2.1 d ((gv_cat _ _).trans hva) ((gv_cat _ _).trans hvb) ((gv_cat _ _).trans hvd) (k p e s m args below meth c D kc ad A H locs ls Q X)
theorem go_dup2 {va vb : Value} (d : decode Y.2.1 pc = .ok (.dup2, 1)) (hva : va.category = 1) (hvb : vb.category = 1) (k : Go E Y al R cs ss (pc + 1) L (va :: vb :: va :: vb :: st) M Φ) : Go E Y al R cs ss pc L (va :: vb :: st) M Φ :=
  fun p e s m args below meth c D kc ad A H locs ls Q X => lv_dup2_11 X.1.1 X.1.2.1 d ((gv_cat _ _).trans hva) ((gv_cat _ _).trans hvb) (k p e s m args below meth c D kc ad A H locs ls Q X)
theorem go_dup2_2 {va : Value} (d : decode Y.2.1 pc = .ok (.dup2, 1)) (hva : va.category = 2) (k : Go E Y al R cs ss (pc + 1) L (va :: va :: st) M Φ) : Go E Y al R cs ss pc L (va :: st) M Φ :=
  fun p e s m args below meth c D kc ad A H locs ls Q X => lv_dup2_2 X.1.1 X.1.2.1 d ((gv_cat _ _).trans hva) (k p e s m args below meth c D kc ad A H locs ls Q X)
theorem go_if_eq {x : Int32} {off : Int} {tgt : Nat} (d : decode Y.2.1 pc = .ok (.ifCond .eq off, 3)) (ht : (pc : Int) + off = (tgt : Int)) (kt : x = 0 → Go E Y al R cs ss tgt L st M Φ) (kf : ¬ x = 0 → Go E Y al R cs ss (pc + 3) L st M Φ) : Go E Y al R cs ss pc L (.int x :: st) M Φ :=
  fun p e s m args below meth c D kc ad A H locs ls Q X => lv_if_eq X.1.1 X.1.2.1 d ht (fun h => kt h p e s m args below meth c D kc ad A H locs ls Q X) (fun h => kf h p e s m args below meth c D kc ad A H locs ls Q X)
theorem go_icmp_eq {x y : Int32} {off : Int} {tgt : Nat} (d : decode Y.2.1 pc = .ok (.if_icmp .eq off, 3)) (ht : (pc : Int) + off = (tgt : Int)) (kt : x = y → Go E Y al R cs ss tgt L st M Φ) (kf : ¬ x = y → Go E Y al R cs ss (pc + 3) L st M Φ) : Go E Y al R cs ss pc L (.int y :: .int x :: st) M Φ :=
  fun p e s m args below meth c D kc ad A H locs ls Q X => lv_icmp_eq X.1.1 X.1.2.1 d ht (fun h => kt h p e s m args below meth c D kc ad A H locs ls Q X) (fun h => kf h p e s m args below meth c D kc ad A H locs ls Q X)
theorem go_if_ne {x : Int32} {off : Int} {tgt : Nat} (d : decode Y.2.1 pc = .ok (.ifCond .ne off, 3)) (ht : (pc : Int) + off = (tgt : Int)) (kt : ¬ x = 0 → Go E Y al R cs ss tgt L st M Φ) (kf : x = 0 → Go E Y al R cs ss (pc + 3) L st M Φ) : Go E Y al R cs ss pc L (.int x :: st) M Φ :=
  fun p e s m args below meth c D kc ad A H locs ls Q X => lv_if_ne X.1.1 X.1.2.1 d ht (fun h => kt h p e s m args below meth c D kc ad A H locs ls Q X) (fun h => kf h p e s m args below meth c D kc ad A H locs ls Q X)
theorem go_icmp_ne {x y : Int32} {off : Int} {tgt : Nat} (d : decode Y.2.1 pc = .ok (.if_icmp .ne off, 3)) (ht : (pc : Int) + off = (tgt : Int)) (kt : ¬ x = y → Go E Y al R cs ss tgt L st M Φ) (kf : x = y → Go E Y al R cs ss (pc + 3) L st M Φ) : Go E Y al R cs ss pc L (.int y :: .int x :: st) M Φ :=
  fun p e s m args below meth c D kc ad A H locs ls Q X => lv_icmp_ne X.1.1 X.1.2.1 d ht (fun h => kt h p e s m args below meth c D kc ad A H locs ls Q X) (fun h => kf h p e s m args below meth c D kc ad A H locs ls Q X)
theorem go_if_lt {x : Int32} {off : Int} {tgt : Nat} (d : decode Y.2.1 pc = .ok (.ifCond .lt off, 3)) (ht : (pc : Int) + off = (tgt : Int)) (kt : x < 0 → Go E Y al R cs ss tgt L st M Φ) (kf : ¬ x < 0 → Go E Y al R cs ss (pc + 3) L st M Φ) : Go E Y al R cs ss pc L (.int x :: st) M Φ :=
  fun p e s m args below meth c D kc ad A H locs ls Q X => lv_if_lt X.1.1 X.1.2.1 d ht (fun h => kt h p e s m args below meth c D kc ad A H locs ls Q X) (fun h => kf h p e s m args below meth c D kc ad A H locs ls Q X)
theorem go_icmp_lt {x y : Int32} {off : Int} {tgt : Nat} (d : decode Y.2.1 pc = .ok (.if_icmp .lt off, 3)) (ht : (pc : Int) + off = (tgt : Int)) (kt : x < y → Go E Y al R cs ss tgt L st M Φ) (kf : ¬ x < y → Go E Y al R cs ss (pc + 3) L st M Φ) : Go E Y al R cs ss pc L (.int y :: .int x :: st) M Φ :=
  fun p e s m args below meth c D kc ad A H locs ls Q X => lv_icmp_lt X.1.1 X.1.2.1 d ht (fun h => kt h p e s m args below meth c D kc ad A H locs ls Q X) (fun h => kf h p e s m args below meth c D kc ad A H locs ls Q X)
theorem go_if_ge {x : Int32} {off : Int} {tgt : Nat} (d : decode Y.2.1 pc = .ok (.ifCond .ge off, 3)) (ht : (pc : Int) + off = (tgt : Int)) (kt : 0 ≤ x → Go E Y al R cs ss tgt L st M Φ) (kf : ¬ 0 ≤ x → Go E Y al R cs ss (pc + 3) L st M Φ) : Go E Y al R cs ss pc L (.int x :: st) M Φ :=
  fun p e s m args below meth c D kc ad A H locs ls Q X => lv_if_ge X.1.1 X.1.2.1 d ht (fun h => kt h p e s m args below meth c D kc ad A H locs ls Q X) (fun h => kf h p e s m args below meth c D kc ad A H locs ls Q X)
theorem go_icmp_ge {x y : Int32} {off : Int} {tgt : Nat} (d : decode Y.2.1 pc = .ok (.if_icmp .ge off, 3)) (ht : (pc : Int) + off = (tgt : Int)) (kt : y ≤ x → Go E Y al R cs ss tgt L st M Φ) (kf : ¬ y ≤ x → Go E Y al R cs ss (pc + 3) L st M Φ) : Go E Y al R cs ss pc L (.int y :: .int x :: st) M Φ :=
  fun p e s m args below meth c D kc ad A H locs ls Q X => lv_icmp_ge X.1.1 X.1.2.1 d ht (fun h => kt h p e s m args below meth c D kc ad A H locs ls Q X) (fun h => kf h p e s m args below meth c D kc ad A H locs ls Q X)
theorem go_if_gt {x : Int32} {off : Int} {tgt : Nat} (d : decode Y.2.1 pc = .ok (.ifCond .gt off, 3)) (ht : (pc : Int) + off = (tgt : Int)) (kt : 0 < x → Go E Y al R cs ss tgt L st M Φ) (kf : ¬ 0 < x → Go E Y al R cs ss (pc + 3) L st M Φ) : Go E Y al R cs ss pc L (.int x :: st) M Φ :=
  fun p e s m args below meth c D kc ad A H locs ls Q X => lv_if_gt X.1.1 X.1.2.1 d ht (fun h => kt h p e s m args below meth c D kc ad A H locs ls Q X) (fun h => kf h p e s m args below meth c D kc ad A H locs ls Q X)
theorem go_icmp_gt {x y : Int32} {off : Int} {tgt : Nat} (d : decode Y.2.1 pc = .ok (.if_icmp .gt off, 3)) (ht : (pc : Int) + off = (tgt : Int)) (kt : y < x → Go E Y al R cs ss tgt L st M Φ) (kf : ¬ y < x → Go E Y al R cs ss (pc + 3) L st M Φ) : Go E Y al R cs ss pc L (.int y :: .int x :: st) M Φ :=
  fun p e s m args below meth c D kc ad A H locs ls Q X => lv_icmp_gt X.1.1 X.1.2.1 d ht (fun h => kt h p e s m args below meth c D kc ad A H locs ls Q X) (fun h => kf h p e s m args below meth c D kc ad A H locs ls Q X)
theorem go_if_le {x : Int32} {off : Int} {tgt : Nat} (d : decode Y.2.1 pc = .ok (.ifCond .le off, 3)) (ht : (pc : Int) + off = (tgt : Int)) (kt : x ≤ 0 → Go E Y al R cs ss tgt L st M Φ) (kf : ¬ x ≤ 0 → Go E Y al R cs ss (pc + 3) L st M Φ) : Go E Y al R cs ss pc L (.int x :: st) M Φ :=
  fun p e s m args below meth c D kc ad A H locs ls Q X => lv_if_le X.1.1 X.1.2.1 d ht (fun h => kt h p e s m args below meth c D kc ad A H locs ls Q X) (fun h => kf h p e s m args below meth c D kc ad A H locs ls Q X)
theorem go_icmp_le {x y : Int32} {off : Int} {tgt : Nat} (d : decode Y.2.1 pc = .ok (.if_icmp .le off, 3)) (ht : (pc : Int) + off = (tgt : Int)) (kt : x ≤ y → Go E Y al R cs ss tgt L st M Φ) (kf : ¬ x ≤ y → Go E Y al R cs ss (pc + 3) L st M Φ) : Go E Y al R cs ss pc L (.int y :: .int x :: st) M Φ :=
  fun p e s m args below meth c D kc ad A H locs ls Q X => lv_icmp_le X.1.1 X.1.2.1 d ht (fun h => kt h p e s m args below meth c D kc ad A H locs ls Q X) (fun h => kf h p e s m args below meth c D kc ad A H locs ls Q X)
theorem go_goto {off : Int} {tgt : Nat} (d : decode Y.2.1 pc = .ok (.goto off, 3)) (ht : (pc : Int) + off = (tgt : Int)) (k : Go E Y al R cs ss tgt L st M Φ) : Go E Y al R cs ss pc L st M Φ :=
  fun p e s m args below meth c D kc ad A H locs ls Q X => lv_goto X.1.1 X.1.2.1 d ht (k p e s m args below meth c D kc ad A H locs ls Q X)
theorem go_tableIn {dflt lo hi : Int} {offs : Array Int} {len : Nat} {x : Int32} {off : Int} {tgt : Nat} (d : decode Y.2.1 pc = .ok (.tableswitch dflt lo hi offs, len)) (h1 : ¬ x.toInt < lo) (h2 : ¬ hi < x.toInt) (ho : offs[(x.toInt - lo).toNat]? = some off) (ht : (pc : Int) + off = (tgt : Int)) (k : Go E Y al R cs ss tgt L st M Φ) : Go E Y al R cs ss pc L (.int x :: st) M Φ :=
  fun p e s m args below meth c D kc ad A H locs ls Q X => lv_tableIn X.1.1 X.1.2.1 d h1 h2 ho ht (k p e s m args below meth c D kc ad A H locs ls Q X)
theorem go_tableOut {dflt lo hi : Int} {offs : Array Int} {len : Nat} {x : Int32} {tgt : Nat} (d : decode Y.2.1 pc = .ok (.tableswitch dflt lo hi offs, len)) (h : x.toInt < lo ∨ hi < x.toInt) (ht : (pc : Int) + dflt = (tgt : Int)) (k : Go E Y al R cs ss tgt L st M Φ) : Go E Y al R cs ss pc L (.int x :: st) M Φ :=
  fun p e s m args below meth c D kc ad A H locs ls Q X => lv_tableOut X.1.1 X.1.2.1 d h ht (k p e s m args below meth c D kc ad A H locs ls Q X)
theorem go_lookup {dflt : Int} {ps : Array (Int × Int)} {len : Nat} {x : Int32} {off : Int} {tgt : Nat} (d : decode Y.2.1 pc = .ok (.lookupswitch dflt ps, len)) (hp : (ps.toList.zip (ps.toList.drop 1)).all (fun (a, next) => a.1 < next.1) = true) (ho : Op.lookupswitch.offset ps.toList dflt x.toInt = off) (ht : (pc : Int) + off = (tgt : Int)) (k : Go E Y al R cs ss tgt L st M Φ) : Go E Y al R cs ss pc L (.int x :: st) M Φ :=
  fun p e s m args below meth c D kc ad A H locs ls Q X => lv_lookup X.1.1 X.1.2.1 d hp ho ht (k p e s m args below meth c D kc ad A H locs ls Q X)
theorem go_ldc {index : Nat} {v : Int32} (hc : gin (Jvm.Cond.constant Y.1.cls index v)) (d : decode Y.2.1 pc = .ok (.ldc index, 2)) (k : Go E Y al R cs ss (pc + 2) L (.int v :: st) M Φ) : Go E Y al R cs ss pc L st M Φ :=
  fun p e s m args below meth c D kc ad A H locs ls Q X => lv_ldc X.1.1 X.1.2.1 X.1.2.2.2.2.2.1 (X.1.2.2.2.2.2.2.1 _ hc) d (k p e s m args below meth c D kc ad A H locs ls Q X)
theorem go_ldc2 {index : Nat} {v : Int64} (hc : gin (Jvm.Cond.constantLong Y.1.cls index v)) (d : decode Y.2.1 pc = .ok (.ldc2_w index, 3)) (k : Go E Y al R cs ss (pc + 3) L (.long v :: st) M Φ) : Go E Y al R cs ss pc L st M Φ :=
  fun p e s m args below meth c D kc ad A H locs ls Q X => lv_ldc2 X.1.1 X.1.2.1 X.1.2.2.2.2.2.1 (X.1.2.2.2.2.2.2.1 _ hc) d (k p e s m args below meth c D kc ad A H locs ls Q X)
theorem go_lcmp {x y : Int64} (d : decode Y.2.1 pc = .ok (.lcmp, 1)) (k : Go E Y al R cs ss (pc + 1) L (.int (lg_cmp x y) :: st) M Φ) : Go E Y al R cs ss pc L (.long y :: .long x :: st) M Φ :=
  fun p e s m args below meth c D kc ad A H locs ls Q X => W.lcmp X.1.1 X.1.2.1 d (k p e s m args below meth c D kc ad A H locs ls Q X)
theorem Wd.moved {D : va_G} {kc : Nat → ClassId} {ad : Nat → Nat} {M : List AE} {u U : State} {H : Heap} (hvm : u.vm.Alike U.vm) (h : Wd D kc ad M u H) : Wd D kc ad M U H := ⟨h.1, va_K.moved hvm h.2.1, fun k t a hk => va_K.moved hvm (h.2.2 k t a hk)⟩
theorem Wd.put {D : va_G} {kc : Nat → ClassId} {ad : Nat → Nat} {M : List AE} {s : State} {H H1 : Heap} {k : Nat} {e : AE} (h : Wd D kc ad M s H) (ht : ∀ t a, e = .inl (t, a) → ∃ a0, M[k]? = some (.inl (t, a0))) (hP : va_P D gcl ((gw kc ad 0 M).set k (ad k, ge (kc k) ad e)) H1) : Wd D kc ad (M.set k e) s H1 := by
  refine ⟨by rw [gw_set0]; exact hP, h.2.1, fun k' t a hk => ?_⟩
  by_cases hkk : k = k'
  · subst hkk
    rw [List.getElem?_set] at hk
    simp only [if_true] at hk
    split at hk
    · cases hk
      obtain ⟨a0, h0⟩ := ht t a rfl
      exact h.2.2 k t a0 h0
    · cases hk
  · rw [List.getElem?_set_ne hkk] at hk
    exact h.2.2 k' t a hk
theorem Sta.moved {ad : Nat → Nat} {A : Nat → Prop} {u U : State} {H : Heap} (hvm : u.vm.Alike U.vm) (h : Sta mT ad A u H) : Sta mT ad A U H := ⟨fun i hi => ⟨(h.1 i hi).1.moved hvm, (h.1 i hi).2.1.moved hvm, (h.1 i hi).2.2⟩, trivial⟩
/-- the context behind a change of one cell -/
theorem Cx.put {p : Program} {e : Env} {s : State} {m : MethodId} {args : Array Value} {below : List Frame} {meth : Method} {c : Code} {D : va_G} {kc : Nat → ClassId} {ad : Nat → Nat} {A : Nat → Prop} {H H1 : Heap} {locs locs1 : List Loc} {ls : Array Slot} {Q : State → Prop} {k : Nat} {x : AE} (X : Cx E Y al R cs ss L M Φ p e s m args below meth c D kc ad A H locs ls Q) (ht : ∀ t a, x = .inl (t, a) → ∃ a0, M[k]? = some (.inl (t, a0))) (hP : va_P D gcl ((gw kc ad 0 M).set k (ad k, ge (kc k) ad x)) H1) (hD : va_D A ((gw kc ad 0 M).set k (ad k, ge (kc k) ad x))) (hS : va_S A s.heap H1 locs1) : Cx E Y al R cs ss L (M.set k x) Φ p e s m args below meth c D kc ad A H1 locs1 ls Q :=
  ⟨X.1, X.2.1.put ht hP, by rw [gw_set0]; exact hD, hS, X.2.2.2.2.1, X.2.2.2.2.2.1, X.2.2.2.2.2.2.1, X.2.2.2.2.2.2.2.1, X.2.2.2.2.2.2.2.2.1, by rw [List.length_set]; exact X.2.2.2.2.2.2.2.2.2⟩
/-- a field as its users see it: its object's number and place, the words -/
def FL (own : String) (idx ci j : Nat) : Prop := ∃ (C : String) (T : u_T) (N : Nat), gcl[ci]? = some (C, T, N) ∧ (∀ w ∈ u_ws C T N, gin w) ∧ j < N ∧ (gin (.fieldLink own idx (T j).1 (T j).2.1 (T j).2.2.1) ∨ ∃ host, nin (.fieldLinkNest own idx (T j).1 (T j).2.1 (T j).2.2.1 host))
/-- and as it is written: its type; not final, or in the constructor of its own -/
def FP (y : MethodName) (idx ci j : Nat) (ty : FieldType) : Prop := ∃ (C : String) (T : u_T) (N : Nat) (ty0 : Nat → FieldType), gcl[ci]? = some (C, T, N) ∧ (∀ w ∈ u_ws C T N, gin w) ∧ j < N ∧ (∀ k, k < N → parseFieldDescriptor (T k).2.2.1 = some (ty0 k)) ∧ (∀ a, a < N → ∀ b, b < N → a ≠ b → (T a).2.1 ≠ (T b).2.1) ∧ parseFieldDescriptor (T j).2.2.1 = some ty ∧
  ((gin (.fieldLink y.cls idx (T j).1 (T j).2.1 (T j).2.2.1) ∧ ((T j).2.2.2 = false ∨ ((T j).2.2.2 = true ∧ y.name = "<init>" ∧ (T j).1 = y.cls))) ∨ ((T j).2.2.2 = false ∧ ∃ host, nin (.fieldLinkNest y.cls idx (T j).1 (T j).2.1 (T j).2.2.1 host)))
theorem go_get {k ci j idx : Nat} {fs : List Value} {v : Value} (hM : M[k]? = some (.inr (ci, fs))) (hF : FL Y.1.cls idx ci j) (hv : fs[j]? = some v) (d : decode Y.2.1 pc = .ok (.getfield idx, 3)) (kk : Go E Y al R cs ss (pc + 3) L (v :: st) M Φ) : Go E Y al R cs ss pc L (.ref k :: st) M Φ := by
  intro p e s m args below meth c D kc ad A H locs ls Q X
  obtain ⟨C, T, N, hc, hin, hj, hlk⟩ := hF
  have he : (gw kc ad 0 M)[k]? = some (ad k, .inr (ci, fs.map (gv ad))) := gw_at hM
  have hv2 : (fs.map (gv ad))[j]? = some (gv ad v) := by rw [List.getElem?_map, hv]; rfl
  have k2 := kk p e s m args below meth c D kc ad A H locs ls Q X
  have hts : ∀ w ∈ u_ws C T N, w.before args s = true := fun w h => X.1.2.2.2.2.2.2.1 w (hin w h)
  rcases hlk with hlk | ⟨host, hlk⟩
  · exact va_get X.1.1 X.1.2.1 hts (fun _ h => h) X.1.2.2.2.2.2.1 X.2.1.2.1 X.2.1.1 k he hc j hj (X.1.2.2.2.2.2.2.1 _ hlk) (fun _ h => h) hv2 d k2
  · exact va_getN X.1.1 X.1.2.1 hts (fun _ h => h) X.1.2.2.2.2.2.1 X.2.1.2.1 X.2.1.1 k he hc j hj (va_Nw.use (nest_tab hlk.2) (X.1.2.2.2.2.2.2.2.1 _ hlk)) (fun _ h => h) hv2 d k2
theorem go_put {k ci j idx : Nat} {ty : FieldType} {fs : List Value} {v : Value} (hM : M[k]? = some (.inr (ci, fs))) (hF : FP Y.1 idx ci j ty) (hn : ∀ ad, narrow ty (gv ad v) = gv ad v) (hfit : ∀ ad, fits ty (gv ad v) = true) (hl : j < fs.length) (d : decode Y.2.1 pc = .ok (.putfield idx, 3)) (kk : Go E Y al R cs ss (pc + 3) L st (M.set k (.inr (ci, fs.set j v))) Φ) : Go E Y al R cs ss pc L (v :: .ref k :: st) M Φ := by
  intro p e s m args below meth c D kc ad A H locs ls Q X
  obtain ⟨C, T, N, ty0, hc, hin, hj, hty, hnm, hd, hlk⟩ := hF
  have he : (gw kc ad 0 M)[k]? = some (ad k, .inr (ci, fs.map (gv ad))) := gw_at hM
  have hl2 : j < (fs.map (gv ad)).length := by rw [List.length_map]; exact hl
  have hts : ∀ w ∈ u_ws C T N, w.before args s = true := fun w h => X.1.2.2.2.2.2.2.1 w (hin w h)
  have hgo : ∀ (H1 : Heap) (locs1 : List Loc), va_P D gcl ((gw kc ad 0 M).set k (ad k, .inr (ci, (fs.map (gv ad)).set j (gv ad v)))) H1 → va_D A ((gw kc ad 0 M).set k (ad k, .inr (ci, (fs.map (gv ad)).set j (gv ad v)))) → va_S A s.heap H1 locs1 → W p E.1 e R s m args below meth c H1 locs1 cs ss Q (F0 m (pc + 3) ls (st.map (gv ad))) := by
    intro H1 locs1 hP1 hD1 hS1
    have hm : ge (kc k) ad (.inr (ci, fs.set j v)) = .inr (ci, (fs.map (gv ad)).set j (gv ad v)) := by
      show Sum.inr (ci, (fs.set j v).map (gv ad)) = _
      rw [List.map_set]
    exact kk p e s m args below meth c D kc ad A H1 locs1 ls Q (X.put (fun t a h => by cases h) (by rw [hm]; exact hP1) (by rw [hm]; exact hD1) hS1)
  rcases hlk with ⟨hlk, hfin | ⟨hf1, hf2, hf3⟩⟩ | ⟨hfin, host, hlk⟩
  · exact va_put X.1.1 X.1.2.1 hts (fun _ h => h) ty0 hty hnm X.1.2.2.2.2.2.1 X.2.1.2.1 X.2.1.1 X.2.2.1 X.2.2.2.1 k he hc j hj (X.1.2.2.2.2.2.2.1 _ hlk) (fun _ h => h) hfin hd (hn ad) (hfit ad) hl2 d hgo
  · exact va_putF X.1.1 X.1.2.1 hts (fun _ h => h) ty0 hty hnm X.1.2.2.2.2.2.1 X.2.1.2.1 X.2.1.1 X.2.2.1 X.2.2.2.1 k he hc j hj (X.1.2.2.2.2.2.2.1 _ hlk) (fun _ h => h) hf1 (X.1.2.2.2.2.2.2.2.2.trans hf2) hf3 hd (hn ad) (hfit ad) hl2 d hgo
  · exact va_putN X.1.1 X.1.2.1 hts (fun _ h => h) ty0 hty hnm X.1.2.2.2.2.2.1 X.2.1.2.1 X.2.1.1 X.2.2.1 X.2.2.2.1 k he hc j hj (va_Nw.use (nest_tab hlk.2) (X.1.2.2.2.2.2.2.2.1 _ hlk)) (fun _ h => h) hfin hd (hn ad) (hfit ad) hl2 d hgo
theorem go_iald {k n : Nat} {f : Nat → Int32} {i : Int32} (hM : M[k]? = some (.inl (0, n, .inl f))) (hin : vp_in i n) (d : decode Y.2.1 pc = .ok (.iaload, 1)) (kk : Go E Y al R cs ss (pc + 1) L (.int (f i.toNatClampNeg) :: st) M Φ) : Go E Y al R cs ss pc L (.int i :: .ref k :: st) M Φ :=
  fun p e s m args below meth c D kc ad A H locs ls Q X => va_iald X.1.1 X.1.2.1 (X.2.1.2.2 k 0 _ hM) X.2.1.1 k 0 (gw_at hM) rfl hin d (kk p e s m args below meth c D kc ad A H locs ls Q X)
theorem go_zald {k n : Nat} {f : Nat → Int32} {i : Int32} (hM : M[k]? = some (.inl (1, n, .inl f))) (hin : vp_in i n) (d : decode Y.2.1 pc = .ok (.baload, 1)) (kk : Go E Y al R cs ss (pc + 1) L (.int (f i.toNatClampNeg) :: st) M Φ) : Go E Y al R cs ss pc L (.int i :: .ref k :: st) M Φ :=
  fun p e s m args below meth c D kc ad A H locs ls Q X => va_zald X.1.1 X.1.2.1 (X.2.1.2.2 k 1 _ hM) X.2.1.1 k 0 (gw_at hM) rfl hin d (kk p e s m args below meth c D kc ad A H locs ls Q X)
theorem go_iast {k n : Nat} {f : Nat → Int32} {i x : Int32} (hM : M[k]? = some (.inl (0, n, .inl f))) (hin : vp_in i n) (d : decode Y.2.1 pc = .ok (.iastore, 1)) (kk : Go E Y al R cs ss (pc + 1) L st (M.set k (.inl (0, n, .inl (upd f i.toNatClampNeg x)))) Φ) : Go E Y al R cs ss pc L (.int x :: .int i :: .ref k :: st) M Φ :=
  fun p e s m args below meth c D kc ad A H locs ls Q X => va_iast X.1.1 X.1.2.1 (X.2.1.2.2 k 0 _ hM) X.2.1.1 X.2.2.1 X.2.2.2.1 k 0 (gw_at hM) rfl hin d (fun H1 locs1 hP1 hD1 hS1 => kk p e s m args below meth c D kc ad A H1 locs1 ls Q (X.put (fun t a h => by cases h; exact ⟨_, hM⟩) hP1 hD1 hS1))
theorem go_zast {k n : Nat} {f : Nat → Int32} {i x : Int32} (hM : M[k]? = some (.inl (1, n, .inl f))) (hin : vp_in i n) (d : decode Y.2.1 pc = .ok (.bastore, 1)) (kk : Go E Y al R cs ss (pc + 1) L st (M.set k (.inl (1, n, .inl (upd f i.toNatClampNeg (vp_nar .boolean x))))) Φ) : Go E Y al R cs ss pc L (.int x :: .int i :: .ref k :: st) M Φ :=
  fun p e s m args below meth c D kc ad A H locs ls Q X => va_zast X.1.1 X.1.2.1 (X.2.1.2.2 k 1 _ hM) X.2.1.1 X.2.2.1 X.2.2.2.1 k 0 (gw_at hM) rfl hin d (fun H1 locs1 hP1 hD1 hS1 => kk p e s m args below meth c D kc ad A H1 locs1 ls Q (X.put (fun t a h => by cases h; exact ⟨_, hM⟩) hP1 hD1 hS1))
theorem go_aald {k n t r : Nat} {C : String} {f : Nat → Option Nat} {i : Int32} (hM : M[k]? = some (.inl (t, n, .inr (.inr (.inr (.inr f)))))) (ht : tyk t = .object C) (hin : vp_in i n) (hr : f i.toNatClampNeg = some r) (d : decode Y.2.1 pc = .ok (.aaload, 1)) (kk : Go E Y al R cs ss (pc + 1) L (.ref r :: st) M Φ) : Go E Y al R cs ss pc L (.int i :: .ref k :: st) M Φ := by
  intro p e s m args below meth c D kc ad A H locs ls Q X
  have hK := X.2.1.2.2 k t _ hM
  rw [ht] at hK
  refine va_aldq X.1.1 X.1.2.1 hK X.2.1.1 k 0 (gw_at hM) rfl hin d ?_
  have k2 := kk p e s m args below meth c D kc ad A H locs ls Q X
  show W p E.1 e R s m args below meth c H locs cs ss Q (F0 m (pc + 1) ls (va_rf ((f i.toNatClampNeg).map ad) :: st.map (gv ad)))
  rw [hr]
  exact k2
theorem go_aast {k n t r ci : Nat} {fs : List Value} {C : String} {T : u_T} {N : Nat} {f : Nat → Option Nat} {i : Int32} (hM : M[k]? = some (.inl (t, n, .inr (.inr (.inr (.inr f)))))) (ht : tyk t = .object C) (hr : M[r]? = some (.inr (ci, fs))) (hc : gcl[ci]? = some (C, T, N)) (hin : vp_in i n) (d : decode Y.2.1 pc = .ok (.aastore, 1)) (kk : Go E Y al R cs ss (pc + 1) L st (M.set k (.inl (t, n, .inr (.inr (.inr (.inr (va_up f i.toNatClampNeg (some r)))))))) Φ) : Go E Y al R cs ss pc L (.ref r :: .int i :: .ref k :: st) M Φ := by
  intro p e s m args below meth c D kc ad A H locs ls Q X
  have hK := X.2.1.2.2 k t _ hM
  rw [ht] at hK
  refine va_astq X.1.1 X.1.2.1 hK X.2.1.1 X.2.2.1 X.2.2.2.1 k 0 r ci (r := (C, T, N)) (gw_at hM) rfl (gw_at hr) hc hin d (fun H1 locs1 hP1 hD1 hS1 => ?_)
  have hm : ge (kc k) ad (.inl (t, n, .inr (.inr (.inr (.inr (va_up f i.toNatClampNeg (some r))))))) = .inl (kc k, n, .inr (.inr (.inr (.inr (va_up (fun j => (f j).map ad) i.toNatClampNeg (some (ad r))))))) := by
    show Sum.inl (kc k, n, Sum.inr (Sum.inr (Sum.inr (Sum.inr (fun j => (va_up f i.toNatClampNeg (some r) j).map ad))))) = _
    congr 7
    funext j
    unfold va_up
    split <;> rfl
  exact kk p e s m args below meth c D kc ad A H1 locs1 ls Q (X.put (fun t a h => by cases h; exact ⟨_, hM⟩) (by rw [hm]; exact hP1) (by rw [hm]; exact hD1) hS1)
theorem go_alen {k n t : Nat} {x : (Nat → Int32) ⊕ (Nat → Int64) ⊕ (Nat → UInt32) ⊕ (Nat → UInt64) ⊕ (Nat → Option Nat)} {v : Int32} (hM : M[k]? = some (.inl (t, n, x))) (hv : Int32.ofNat n = v) (d : decode Y.2.1 pc = .ok (.arraylength, 1)) (kk : Go E Y al R cs ss (pc + 1) L (.int v :: st) M Φ) : Go E Y al R cs ss pc L (.ref k :: st) M Φ :=
  fun p e s m args below meth c D kc ad A H locs ls Q X => va_alen X.1.1 X.1.2.1 (X.2.1.2.2 k t _ hM) X.2.1.1 k 0 (gw_at hM) rfl hv d (kk p e s m args below meth c D kc ad A H locs ls Q X)
theorem go_gets {i idx : Nat} (hi : i < 3) (hlk : gin (.fieldLink Y.1.cls idx sta_C (sta_n i) "[I") ∨ ∃ host, nin (.fieldLinkNest Y.1.cls idx sta_C (sta_n i) "[I" host)) (d : decode Y.2.1 pc = .ok (.getstatic idx, 3)) (kk : Go E Y al R cs ss (pc + 3) L (.ref (100000 + i) :: st) M Φ) : Go E Y al R cs ss pc L st M Φ := by
  intro p e s m args below meth c D kc ad A H locs ls Q X
  have k2 := kk p e s m args below meth c D kc ad A H locs ls Q X
  rcases hlk with hlk | ⟨host, hlk⟩
  · exact va_gets X.1.1 X.1.2.1 (X.2.2.2.2.2.1.1 i hi).1 X.2.2.2.1 X.1.2.2.2.2.2.1 (X.1.2.2.2.2.2.2.1 _ hlk) (fun _ h => h) d k2
  · exact va_getsN X.1.1 X.1.2.1 (X.2.2.2.2.2.1.1 i hi).1 X.2.2.2.1 X.1.2.2.2.2.2.1 (va_Nw.use (nest_tab hlk.2) (X.1.2.2.2.2.2.2.2.1 _ hlk)) (fun _ h => h) d k2
theorem go_scr {n : Nat} {xs : Nat → Int32} {i : Int32} (hE : E.2 = fun b A s => va_X b n xs s s.heap ∧ b < s.heap.size ∧ ¬ A b) (hin : vp_in i n) (d : decode Y.2.1 pc = .ok (.iaload, 1)) (kk : Go E Y al R cs ss (pc + 1) L (.int (xs i.toNatClampNeg) :: st) M Φ) : Go E Y al R cs ss pc L (.int i :: .ref 100003 :: st) M Φ := by
  intro p e s m args below meth c D kc ad A H locs ls Q X
  have h2 := X.2.2.2.2.2.1.2
  rw [hE] at h2
  exact va_sld X.1.1 X.1.2.1 h2.1 h2.2.1 h2.2.2 X.2.2.2.1 hin d (kk p e s m args below meth c D kc ad A H locs ls Q X)
theorem go_scn {n : Nat} {xs : Nat → Int32} (hE : E.2 = fun b A s => va_X b n xs s s.heap ∧ b < s.heap.size ∧ ¬ A b) (d : decode Y.2.1 pc = .ok (.arraylength, 1)) (kk : Go E Y al R cs ss (pc + 1) L (.int (Int32.ofNat n) :: st) M Φ) : Go E Y al R cs ss pc L (.ref 100003 :: st) M Φ := by
  intro p e s m args below meth c D kc ad A H locs ls Q X
  have h2 := X.2.2.2.2.2.1.2
  rw [hE] at h2
  exact va_slen X.1.1 X.1.2.1 h2.1 h2.2.1 h2.2.2 X.2.2.2.1 d (kk p e s m args below meth c D kc ad A H locs ls Q X)
theorem go_sld {i : Nat} {x : Int32} (hi : i < 3) (hin : vp_in x 25) (d : decode Y.2.1 pc = .ok (.iaload, 1)) (kk : Go E Y al R cs ss (pc + 1) L (.int (sta_v i x.toNatClampNeg) :: st) M Φ) : Go E Y al R cs ss pc L (.int x :: .ref (100000 + i) :: st) M Φ :=
  fun p e s m args below meth c D kc ad A H locs ls Q X => va_sld X.1.1 X.1.2.1 (X.2.2.2.2.2.1.1 i hi).2.1 (X.2.2.2.2.2.1.1 i hi).2.2.1 (X.2.2.2.2.2.1.1 i hi).2.2.2 X.2.2.2.1 hin d (kk p e s m args below meth c D kc ad A H locs ls Q X)
end GORULES
end
section
/-! Contracts over the abstract memory, and calls. -/
def gws (Y : Mt) : List Cond := Cond.code Y.1 Y.2.1 Y.2.2.1 Y.2.2.2 :: lw_tbl.filter goodWord
def Qg (Φ : Post) (al : Bool) (D : va_G) (kc : Nat → ClassId) (ad : Nat → Nat) (M : List AE) (sz : Nat) : Array Value → State → Outcome → State → Prop := fun _ st oc t =>
  (∃ (r : Option Value) (M' : List AE) (kc' : Nat → ClassId) (ad' : Nat → Nat), oc = .returned (r.map (gv ad')) ∧ Φ r M' ∧ M.length ≤ M'.length ∧ Agr al M.length kc kc' ad ad' ∧ Wd D kc' ad' M' t t.heap ∧ va_D (va_A (gw kc ad 0 M) sz) (gw kc' ad' 0 M')) ∧ va_F (va_A (gw kc ad 0 M) sz) st t
def Pg (as : List Value) (D : va_G) (kc : Nat → ClassId) (ad : Nat → Nat) (M : List AE) (sz : Nat) : Array Value → State → Prop :=
  va_Pc (as.map (gv ad)) (fun U => U.heap.size = sz ∧ Wd D kc ad M U U.heap ∧ va_D (fun _ => True) (gw kc ad 0 M) ∧ Sta mT ad (va_A (gw kc ad 0 M) sz) U U.heap ∧ ∀ w, nin w → va_Nw w U)
/-- method Y, called with as on memory M, returns with Φ -/
def Mets (l : Launch) (Y : Mt) (al : Bool) (rm : Room) (as : List Value) (M : List AE) (Φ : Post) : Prop :=
  ∀ (D : va_G) (kc : Nat → ClassId) (ad : Nat → Nat) (sz : Nat), Met l Y.1 (gws Y) rm (Pg as D kc ad M sz) (Qg Φ al D kc ad M sz) rm.cells rm.slots (va_A (gw kc ad 0 M) sz)
def eL : List Value → List (Option Value)
  | [] => []
  | v :: vs => if v.category = 2 then some v :: none :: eL vs else some v :: eL vs
theorem lp_nones (ad : Nat → Nat) : ∀ (n i : Nat), lp ad i (List.replicate n none) = []
  | 0, _ => rfl
  | n + 1, i => by
    rw [List.replicate_succ]
    exact lp_nones ad n (i + 1)
theorem lp_eL (ad : Nat → Nat) (n : Nat) : ∀ (as : List Value) (i : Nat), lp ad i (eL as ++ List.replicate n none) = lv_args i (as.map (gv ad))
  | [], i => lp_nones ad n i
  | v :: vs, i => by
    simp only [eL, List.map_cons, lv_args, gv_cat]
    by_cases h : v.category = 2
    · simp only [if_pos h, List.cons_append, lp]
      rw [lp_eL ad n vs (i + 1 + 1)]
    · simp only [if_neg h, List.cons_append, lp]
      rw [lp_eL ad n vs (i + 1)]
theorem eL_len (ad : Nat → Nat) : ∀ (as : List Value), (lg_sl (as.map (gv ad))).length = (eL as).length
  | [] => rfl
  | v :: vs => by
    have ih := eL_len ad vs
    simp only [lg_sl] at ih
    simp only [eL, lg_sl, List.map_cons, List.flatMap_cons, List.length_append, gv_cat]
    by_cases h : v.category = 2
    · simp only [if_pos h, List.length_cons, List.length_nil, ih]
      omega
    · simp only [if_neg h, List.length_cons, List.length_nil, ih]
      omega
set_option maxHeartbeats 4000000 in
theorem mets_of {l : Launch} {Y : Mt} {al : Bool} {rm : Room} {as : List Value} {M : List AE} {Φ : Post} {L : List (Option Value)} (hp : plainName Y.1.cls = true) (hle : (eL as).length ≤ Y.2.2.1) (hL : eL as ++ List.replicate (Y.2.2.1 - (eL as).length) none = L) (g : Go (mE l) Y al rm 0 0 0 L [] M Φ) : Mets l Y al rm as M Φ := by
  intro D kc ad sz
  refine Met.ofW (cc := Y.2.1) (maxL := Y.2.2.1) (ret := Y.2.2.2) hp rfl ?_
  intro p e s m args below meth c s₁ B hml hv
  obtain ⟨rfl, hsz, hW, hD0, hT, hN⟩ := hv
  subst hsz
  have hts := atoms_spec (ws := gws Y) B.pre
  have hown : s.vm.findClass Y.1.cls = some m.cls := findClass_of_methodNamed B.named
  have hr := B.returns
  have hlocks := B.notSynchronized
  have hl := lv_entry (as.map (gv ad)) (n := Y.2.2.1) (by rw [eL_len]; exact hle)
  rw [lg_entry_eq]
  have hl2 : lv_has (lg_sl (as.map (gv ad)) ++ List.replicate (Y.2.2.1 - (lg_sl (as.map (gv ad))).length) Slot.unset).toArray Y.2.2.1 (lp ad 0 L) := by
    rw [← hL, lp_eL]
    exact hl
  refine g p e s m _ below meth c D kc ad (va_A (gw kc ad 0 M) s.heap.size) s.heap [] _ _ ⟨⟨B.exec, B.bytes, hml, hr, hlocks, hown, fun w hw => hts w (List.mem_cons_of_mem _ (List.mem_filter.mpr hw)), hN, (name_of_methodNamed B.named B.method).1⟩, hW, hD0.self, va_S.rf, fun q h => Or.inr h, hT, hl2, Nat.zero_le _, Nat.zero_le _, ?_⟩
  intro r M' kc' ad' H' locs' cs' ss' pc' ls' hΦ hrt hln hag hW' hD' hS' hc hs
  refine W.widen hc hs ?_
  have hq : ∀ t : State, t.heap = H' → s.WarmedH t.vm → Qg Φ al D kc ad M s.heap.size (as.map (gv ad)).toArray s (.returned (r.map (gv ad'))) t := fun t ht hWt =>
    ⟨⟨r, M', kc', ad', rfl, hΦ, hln, hag, by rw [ht]; exact hW'.moved hWt.alike, hD'⟩, hS'.F ht⟩
  unfold RetOK at hrt
  split at hrt
  next h1 => exact W.vret B.exec B.bytes (hr.trans h1) hq hS'.2.2 hrt
  next h1 => exact W.iret B.exec B.bytes (hr.trans h1) hq hS'.2.2 hrt
  next h1 => exact W.zret B.exec B.bytes (hr.trans h1) hrt.1 hq hS'.2.2 hrt.2
  next h1 => exact W.lret B.exec B.bytes (hr.trans h1) hq hS'.2.2 hrt
  next h1 => exact W.aret B.exec B.bytes (hr.trans h1) (Or.inr ⟨_, rfl⟩) (Or.inr ⟨_, rfl⟩) hq hS'.2.2 hrt
  next => exact hrt.elim
/-- what is asked of a method that is called -/
def CZ (Z : Mt) (np : Nat) : Prop := gin (.code Z.1 Z.2.1 Z.2.2.1 Z.2.2.2) ∧ gin (.initialized Z.1.cls) ∧ (Z.1.cls ≠ "java/lang/invoke/MethodHandle" ∧ Z.1.cls ≠ "java/lang/invoke/VarHandle") ∧ (parseMethodDescriptor Z.1.desc).map (fun d => d.parameters.length) = some np
def CV (Z : Mt) : Prop := gin (.instanceMethod Z.1) ∧ gin (.selects Z.1.cls Z.1 Z.1)
def ML (own : String) (idx : Nat) (y : MethodName) : Prop := gin (.methodLink own idx y) ∨ ∃ host, nin (.methodLinkNest own idx y host)
section GOCALLS
variable {E : Lx} {Y Z : Mt} {al : Bool} {R rm : Room} {cs ss pc np idx : Nat} {L : List (Option Value)} {st st0 as : List Value} {M : List AE} {Φ Ψ : Post}
variable {p : Program} {e : Env} {s : State} {m : MethodId} {args : Array Value} {below : List Frame} {meth : Method} {c : Code} {D : va_G} {kc : Nat → ClassId} {ad : Nat → Nat} {A : Nat → Prop} {H : Heap} {locs : List Loc} {ls : Array Slot} {Q : State → Prop}
theorem gz_pay (hts : ∀ w, gin w → w.before args s = true) (hc : gin (.code Z.1 Z.2.1 Z.2.2.1 Z.2.2.2)) : ∀ w ∈ gws Z, ∀ (a' : Array Value) (U : State), s.WarmedH U.vm → w.before a' U = true := by
  intro w hw a' U hW
  have hg : gin w := by
    rcases List.mem_cons.mp hw with h | h
    · rw [h]; exact hc
    · exact List.mem_filter.mp h
  exact word_at hW (good_of hg.2) (hts w hg)
theorem gz_callB (E : Ev Y p s m args meth c) (hZ : CZ Z np) (hlk : gin (.methodLink Y.1.cls idx Z.1)) (hR : rm.frames + 1 ≤ R.frames ∧ 8 + (Z.2.2.1 + 11) + rm.locals ≤ R.locals) : CallB R s args Y.1.cls idx Z.1 Z.2.1 Z.2.2.1 Z.2.2.2 (gws Z) rm rm.cells rm.slots np :=
  ⟨rfl, rfl, hR.1, hR.2, gz_pay E.2.2.2.2.2.2.1 hZ.1, List.mem_cons_self, E.2.2.2.2.2.2.1 _ hZ.1, E.2.2.2.2.2.2.1 _ hZ.2.1, hZ.2.2.1, fun sig h => by
    have h2 := hZ.2.2.2
    rw [h] at h2
    exact (Option.some.inj h2).symm, E.2.2.2.2.2.2.1 _ hlk⟩
theorem gz_callN {host : String} (E : Ev Y p s m args meth c) (hZ : CZ Z np) (hlk : nin (.methodLinkNest Y.1.cls idx Z.1 host)) (hR : rm.frames + 1 ≤ R.frames ∧ 8 + (Z.2.2.1 + 11) + rm.locals ≤ R.locals) : va_CN R s args Y.1.cls idx Z.1 host Z.2.1 Z.2.2.1 Z.2.2.2 (gws Z) rm rm.cells rm.slots np :=
  ⟨⟨rfl, rfl, hR.1, hR.2, gz_pay E.2.2.2.2.2.2.1 hZ.1, List.mem_cons_self⟩, E.2.2.2.2.2.2.1 _ hZ.1, E.2.2.2.2.2.2.1 _ hZ.2.1, hZ.2.2.1, fun sig h => by
    have h2 := hZ.2.2.2
    rw [h] at h2
    exact (Option.some.inj h2).symm, va_Nw.use (nest_tab hlk.2) (E.2.2.2.2.2.2.2.1 _ hlk)⟩
theorem gz_free (X : Cx E Y al R cs ss L M Φ p e s m args below meth c D kc ad A H locs ls Q) : ∀ q, va_A (gw kc ad 0 M) H.size q → A q := by
  intro q h
  rcases h with ⟨k, x, hk⟩ | h
  · exact X.2.2.1.2 k (q, x) hk
  · exact X.2.2.2.2.1 q (Nat.le_trans X.2.2.2.1.1 h)
theorem gz_sta (X : Cx E Y al R cs ss L M Φ p e s m args below meth c D kc ad A H locs ls Q) : Sta mT ad (va_A (gw kc ad 0 M) H.size) s H := ⟨fun i hi => by
  obtain ⟨h1, h2, h3, h4⟩ := X.2.2.2.2.2.1.1 i hi
  exact ⟨(h1.kept X.2.2.2.1.2.1).narrow (gz_free X), h2.kept (X.2.2.2.1.2.1 _ h3 h4), Nat.lt_of_lt_of_le h3 X.2.2.2.1.1, fun h => h4 (gz_free X _ h)⟩, trivial⟩
theorem gz_blind {sz : Nat} : FrameBlind (Pg as D kc ad M sz) := fun a U g mk q =>
  ⟨q.1, q.2.1, Wd.moved (u := U) (U := U.calling g mk a) (Vm.Alike.refl U.vm) q.2.2.1, q.2.2.2.1, Sta.moved (u := U) (U := U.calling g mk a) (Vm.Alike.refl U.vm) q.2.2.2.2.1, fun w hw => va_Nw.same (u := U) (U := U.calling g mk a) (nest_tab hw.2) rfl (q.2.2.2.2.2 w hw)⟩
theorem gz_pre (X : Cx E Y al R cs ss L M Φ p e s m args below meth c D kc ad A H locs ls Q) : ∀ U : State, U.heap = H → s.WarmedH U.vm → Pg as D kc ad M H.size (as.map (gv ad)).toArray U := fun U hU hW => by
  refine ⟨rfl, by rw [hU], by rw [hU]; exact X.2.1.moved hW.alike, X.2.2.1.weaken (fun _ _ _ _ => trivial), by rw [hU]; exact (gz_sta X).moved hW.alike, fun w hw => nest_warm hw.2 hW (X.1.2.2.2.2.2.2.2.1 w hw)⟩
/-- behind a call that makes no cells -/
theorem gz_go (X : Cx E Y al R cs ss L M Φ p e s m args below meth c D kc ad A H locs ls Q) (h0 : rm.cells = 0) (h1 : rm.slots = 0) {av : Array Value}
    (run : va_Run p E.1 e R s m args below meth c H locs cs ss rm.cells rm.slots (F0 m pc ls (st0.map (gv ad))) (st.map (gv ad)) (Qg Ψ false D kc ad M H.size av) (va_A (gw kc ad 0 M) H.size))
    (kk : ∀ (r : Option Value) (M' : List AE), Ψ r M' → Go E Y al R cs ss (pc + 3) L (r.toList ++ st) M' Φ) : W p E.1 e R s m args below meth c H locs cs ss Q (F0 m pc ls (st0.map (gv ad))) := by
  intro T hT X0
  obtain ⟨v, st₀, t, T', Lc, hh0, X', hLc, e1, e2, ⟨⟨r, M', kc', ad', hv, hΨ, hle, hag, hW', hD'⟩, hz, hk⟩, stp⟩ := run T hT X0
  obtain ⟨rfl, rfl⟩ := hag
  cases hv
  rw [hh0] at hz hk
  rw [h0, h1] at X'
  have hfree := gz_free X
  have hS := X.2.2.2.1
  have hW2 : Wd D kc' ad' M' s T'.heap := by
    rw [e1]
    exact hW'.moved (by rw [← e2]; exact X'.warmed.alike.symm)
  have hS2 : va_S A s.heap T'.heap (locs ++ Lc) := ⟨Nat.le_trans hS.1 (by rw [e1]; exact hz), fun q h1 h2 => by rw [e1, hk q (Nat.lt_of_lt_of_le h1 hS.1) (fun z => h2 (hfree q z))]; exact hS.2.1 q h1 h2, fun q hq => by
      rcases List.mem_append.mp hq with h | h
      · exact hS.2.2 q h
      · exact hfree _ (hLc q h)⟩
  have hfin := X.2.2.2.2.2.2.2.2.2
  have hfin2 : Fn E Y al R M'.length Φ p e s m args below meth c D kc' ad' A Q := by
    intro r2 M2 kc2 ad2 H2 locs2 cs2 ss2 pc2 ls2 a1 a2 a3 a4
    refine hfin r2 M2 kc2 ad2 H2 locs2 cs2 ss2 pc2 ls2 a1 a2 (Nat.le_trans hle a3) ?_
    cases al
    · exact a4
    · exact ⟨fun k hk => a4.1 k (Nat.lt_of_lt_of_le hk hle), fun k hk => a4.2 k (hk.imp (fun h => Nat.lt_of_lt_of_le h hle) id)⟩
  obtain ⟨t2, b1, b2⟩ := kk r M' hΨ p e s m args below meth c D kc' ad' A T'.heap (locs ++ Lc) ls Q ⟨X.1, hW2, hD'.weaken (fun _ _ _ h => hfree _ h), hS2, X.2.2.2.2.1, X.2.2.2.2.2.1, X.2.2.2.2.2.2.1, X.2.2.2.2.2.2.2.1, X.2.2.2.2.2.2.2.2.1, hfin2⟩ T' rfl X'
  refine ⟨t2, stp t2 ?_, b2⟩
  have hst : (r.map (gv ad')).toList ++ st.map (gv ad') = (r.toList ++ st).map (gv ad') := by
    cases r <;> simp
  show Steps p.tables e below (T'.setTop (F0 m (pc + 3) ls ((r.map (gv ad')).toList ++ st.map (gv ad')))) t2
  rw [hst]
  exact b1
theorem gz_cat (hcat : (st.map Value.category).sum ≤ 8) : ((st.map (gv ad)).map fun v => v.category).sum ≤ 8 := by
  have : ((st.map (gv ad)).map fun v => v.category) = st.map Value.category := by
    rw [List.map_map]
    exact List.map_congr_left fun v _ => gv_cat ad v
  rw [this]
  exact hcat
theorem go_callV {k ci N : Nat} {fs : List Value} {T : u_T} (hM : Mets E.1 Z false rm (.ref k :: as) M Ψ) (hZ : CZ Z np) (hV : CV Z) (hlk : ML Y.1.cls idx Z.1) (ho : M[k]? = some (.inr (ci, fs))) (hc : gcl[ci]? = some (Z.1.cls, T, N)) (hn : as.length = np) (hs0 : st0 = as.reverse ++ .ref k :: st) (hcat : (st.map Value.category).sum ≤ 8) (hR : rm.frames + 1 ≤ R.frames ∧ 8 + (Z.2.2.1 + 11) + rm.locals ≤ R.locals) (h0 : rm.cells = 0) (h1 : rm.slots = 0) (d : decode Y.2.1 pc = .ok (.invokevirtual idx, 3)) (kk : ∀ (r : Option Value) (M' : List AE), Ψ r M' → Go E Y al R cs ss (pc + 3) L (r.toList ++ st) M' Φ) : Go E Y al R cs ss pc L st0 M Φ := by
  intro p e s m args below meth c D kc ad A H locs ls Q X
  subst hs0
  have hrec := va_recv X.2.1.2.1 X.2.1.1 hc (gw_at ho)
  have hpre : PreV s H Z.1.cls (ad k) (Pg (.ref k :: as) D kc ad M H.size) (as.map (gv ad)) := ⟨gz_blind, hrec, gz_pre (as := .ref k :: as) X⟩
  have hstk : (F0 m pc ls ((as.reverse ++ .ref k :: st).map (gv ad))).stack = (as.map (gv ad)).reverse ++ .ref (ad k) :: st.map (gv ad) := by
    show (as.reverse ++ .ref k :: st).map (gv ad) = _
    rw [List.map_append, List.map_reverse]
    rfl
  have hcs : cs + rm.cells ≤ R.cells ∧ ss + rm.slots ≤ R.slots := by
    rw [h0, h1]
    exact ⟨X.2.2.2.2.2.2.2.1, X.2.2.2.2.2.2.2.2.1⟩
  rcases hlk with hlk | ⟨host, hlk⟩
  · exact gz_go X h0 h1 (va_runV (Ts := []) ⟨X.1.1, X.1.2.1, X.1.2.2.1, X.1.2.2.2.2.2.1, fun _ h => by cases h⟩ (hM D kc ad H.size) ⟨gz_callB X.1 hZ hlk hR, X.1.2.2.2.2.2.2.1 _ hV.1, X.1.2.2.2.2.2.2.1 _ hV.2⟩ hpre rfl (by rw [List.length_map]; exact hn) X.2.2.2.2.2.2.1.1 hstk (lv_room (gz_cat hcat)) d hcs) kk
  · exact gz_go X h0 h1 (va_runVN (Ts := []) ⟨X.1.1, X.1.2.1, X.1.2.2.1, X.1.2.2.2.2.2.1, fun _ h => by cases h⟩ (hM D kc ad H.size) ⟨gz_callN X.1 hZ hlk hR, X.1.2.2.2.2.2.2.1 _ hV.1, X.1.2.2.2.2.2.2.1 _ hV.2⟩ hpre rfl (by rw [List.length_map]; exact hn) X.2.2.2.2.2.2.1.1 hstk (lv_room (gz_cat hcat)) d hcs) kk
theorem go_callS (hM : Mets E.1 Z false rm as M Ψ) (hZ : CZ Z np) (hV : gin (.static Z.1)) (hlk : ML Y.1.cls idx Z.1) (hn : as.length = np) (hs0 : st0 = as.reverse ++ st) (hcat : (st.map Value.category).sum ≤ 8) (hR : rm.frames + 1 ≤ R.frames ∧ 8 + (Z.2.2.1 + 11) + rm.locals ≤ R.locals) (h0 : rm.cells = 0) (h1 : rm.slots = 0) (d : decode Y.2.1 pc = .ok (.invokestatic idx, 3)) (kk : ∀ (r : Option Value) (M' : List AE), Ψ r M' → Go E Y al R cs ss (pc + 3) L (r.toList ++ st) M' Φ) : Go E Y al R cs ss pc L st0 M Φ := by
  intro p e s m args below meth c D kc ad A H locs ls Q X
  subst hs0
  have hpre : PreS s H (Pg as D kc ad M H.size) (as.map (gv ad)) := ⟨gz_blind, gz_pre X⟩
  have hstk : (F0 m pc ls ((as.reverse ++ st).map (gv ad))).stack = (as.map (gv ad)).reverse ++ st.map (gv ad) := by
    show (as.reverse ++ st).map (gv ad) = _
    rw [List.map_append, List.map_reverse]
  have hcs : cs + rm.cells ≤ R.cells ∧ ss + rm.slots ≤ R.slots := by
    rw [h0, h1]
    exact ⟨X.2.2.2.2.2.2.2.1, X.2.2.2.2.2.2.2.2.1⟩
  rcases hlk with hlk | ⟨host, hlk⟩
  · exact gz_go X h0 h1 (va_runS (Ts := []) ⟨X.1.1, X.1.2.1, X.1.2.2.1, X.1.2.2.2.2.2.1, fun _ h => by cases h⟩ (hM D kc ad H.size) ⟨gz_callB X.1 hZ hlk hR, X.1.2.2.2.2.2.2.1 _ hV⟩ hpre rfl (by rw [List.length_map]; exact hn) X.2.2.2.2.2.2.1.1 hstk (lv_room (gz_cat hcat)) d hcs) kk
  · exact gz_go X h0 h1 (va_runSN (Ts := []) ⟨X.1.1, X.1.2.1, X.1.2.2.1, X.1.2.2.2.2.2.1, fun _ h => by cases h⟩ (hM D kc ad H.size) ⟨gz_callN X.1 hZ hlk hR, X.1.2.2.2.2.2.2.1 _ hV, trivial⟩ hpre rfl (by rw [List.length_map]; exact hn) X.2.2.2.2.2.2.1.1 hstk (lv_room (gz_cat hcat)) d hcs) kk
theorem go_objInit {k : Nat} (hlk : gin (.methodLink Y.1.cls idx Lib.objectInit)) (hi : gin (.instanceMethod Lib.objectInit)) (hc : gin (.code Lib.objectInit ⟨#[0xb1]⟩ 1 none)) (hfr : 1 ≤ R.frames) (hlo : (st.map Value.category).sum + 12 ≤ R.locals) (d : decode Y.2.1 pc = .ok (.invokespecial idx, 3)) (kk : Go E Y al R cs ss (pc + 3) L st M Φ) : Go E Y al R cs ss pc L (.ref k :: st) M Φ := by
  intro p e s m args below meth c D kc ad A H locs ls Q X
  refine W.objInit X.1.1 X.1.2.1 X.1.2.2.2.2.2.1 (X.1.2.2.2.2.2.2.1 _ hlk) (X.1.2.2.2.2.2.2.1 _ hi) (X.1.2.2.2.2.2.2.1 _ hc) rfl (by rw [X.1.2.2.1]; exact X.2.2.2.2.2.2.1.1) rfl d hfr ?_ (kk p e s m args below meth c D kc ad A H locs ls Q X)
  have h2 : ((st.map (gv ad)).map fun v => v.category) = st.map Value.category := by
    rw [List.map_map]
    exact List.map_congr_left fun v _ => gv_cat ad v
  show 2 * 0 + ((st.map (gv ad)).map fun v => v.category).sum + 12 ≤ R.locals
  rw [h2]
  omega
end GOCALLS
end
section
/-! The memory of the running system: every cell has its shape, which no call changes; its numbers are functions. -/
abbrev Mu : Type := (Nat → Nat → Int32) × (Nat → Nat → Int32) × (Nat → Int64)
abbrev Sh : Type := (Nat × Nat × List (Option Nat)) ⊕ (Nat × List (Nat ⊕ Nat))
def shapes : List Sh := [.inr (5, [.inl 0, .inr 1, .inr 2, .inl 0, .inl 0]),
  .inl (2, 4, [some 3, some 8, some 13, some 18]),
  .inl (3, 4, [some 23, some 40, some 57, some 74]),
  .inr (2, [.inr 4, .inr 5, .inr 6, .inr 7, .inl 0, .inl 0, .inl 0]),
  .inl (0, 24, []),
  .inl (0, 24, []),
  .inl (0, 24, []),
  .inl (0, 24, []),
  .inr (2, [.inr 9, .inr 10, .inr 11, .inr 12, .inl 0, .inl 0, .inl 0]),
  .inl (0, 24, []),
  .inl (0, 24, []),
  .inl (0, 24, []),
  .inl (0, 24, []),
  .inr (2, [.inr 14, .inr 15, .inr 16, .inr 17, .inl 0, .inl 0, .inl 0]),
  .inl (0, 24, []),
  .inl (0, 24, []),
  .inl (0, 24, []),
  .inl (0, 24, []),
  .inr (2, [.inr 19, .inr 20, .inr 21, .inr 22, .inl 0, .inl 0, .inl 0]),
  .inl (0, 24, []),
  .inl (0, 24, []),
  .inl (0, 24, []),
  .inl (0, 24, []),
  .inr (4, [.inr 24, .inr 29, .inr 32, .inr 33, .inr 35, .inr 37, .inr 39, .inl 0, .inl 0, .inl 0, .inl 0, .inl 0, .inl 0]),
  .inr (0, [.inr 25, .inr 26, .inr 27, .inr 28, .inl 1, .inl 0, .inl 0]),
  .inl (0, 33, []),
  .inl (0, 33, []),
  .inl (0, 33, []),
  .inl (0, 33, []),
  .inr (3, [.inr 30, .inr 31, .inl 0]),
  .inl (0, 6, []),
  .inl (1, 6, []),
  .inl (0, 4, []),
  .inr (1, [.inr 34, .inl 0]),
  .inl (0, 4, []),
  .inr (1, [.inr 36, .inl 0]),
  .inl (0, 8, []),
  .inr (1, [.inr 38, .inl 0]),
  .inl (0, 16, []),
  .inl (0, 4, []),
  .inr (4, [.inr 41, .inr 46, .inr 49, .inr 50, .inr 52, .inr 54, .inr 56, .inl 0, .inl 0, .inl 0, .inl 0, .inl 0, .inl 0]),
  .inr (0, [.inr 42, .inr 43, .inr 44, .inr 45, .inl 1, .inl 0, .inl 0]),
  .inl (0, 33, []),
  .inl (0, 33, []),
  .inl (0, 33, []),
  .inl (0, 33, []),
  .inr (3, [.inr 47, .inr 48, .inl 0]),
  .inl (0, 6, []),
  .inl (1, 6, []),
  .inl (0, 4, []),
  .inr (1, [.inr 51, .inl 0]),
  .inl (0, 4, []),
  .inr (1, [.inr 53, .inl 0]),
  .inl (0, 8, []),
  .inr (1, [.inr 55, .inl 0]),
  .inl (0, 16, []),
  .inl (0, 4, []),
  .inr (4, [.inr 58, .inr 63, .inr 66, .inr 67, .inr 69, .inr 71, .inr 73, .inl 0, .inl 0, .inl 0, .inl 0, .inl 0, .inl 0]),
  .inr (0, [.inr 59, .inr 60, .inr 61, .inr 62, .inl 1, .inl 0, .inl 0]),
  .inl (0, 33, []),
  .inl (0, 33, []),
  .inl (0, 33, []),
  .inl (0, 33, []),
  .inr (3, [.inr 64, .inr 65, .inl 0]),
  .inl (0, 6, []),
  .inl (1, 6, []),
  .inl (0, 4, []),
  .inr (1, [.inr 68, .inl 0]),
  .inl (0, 4, []),
  .inr (1, [.inr 70, .inl 0]),
  .inl (0, 8, []),
  .inr (1, [.inr 72, .inl 0]),
  .inl (0, 16, []),
  .inl (0, 4, []),
  .inr (4, [.inr 75, .inr 80, .inr 83, .inr 84, .inr 86, .inr 88, .inr 90, .inl 0, .inl 0, .inl 0, .inl 0, .inl 0, .inl 0]),
  .inr (0, [.inr 76, .inr 77, .inr 78, .inr 79, .inl 1, .inl 0, .inl 0]),
  .inl (0, 33, []),
  .inl (0, 33, []),
  .inl (0, 33, []),
  .inl (0, 33, []),
  .inr (3, [.inr 81, .inr 82, .inl 0]),
  .inl (0, 6, []),
  .inl (1, 6, []),
  .inl (0, 4, []),
  .inr (1, [.inr 85, .inl 0]),
  .inl (0, 4, []),
  .inr (1, [.inr 87, .inl 0]),
  .inl (0, 8, []),
  .inr (1, [.inr 89, .inl 0]),
  .inl (0, 16, []),
  .inl (0, 4, []),
  .inr (6, [.inl 0, .inr 92, .inr 93, .inr 94, .inr 95, .inr 96, .inr 97, .inr 98, .inr 99, .inr 100, .inl 0, .inr 101, .inr 102, .inr 103, .inr 104, .inr 105, .inr 106, .inr 107, .inr 108, .inr 109, .inr 110, .inr 111, .inr 112, .inr 113, .inr 114, .inr 115, .inr 116, .inr 117, .inr 118, .inr 119, .inr 120, .inr 121, .inl 0]),
  .inl (0, 96, []),
  .inl (0, 96, []),
  .inl (0, 96, []),
  .inl (0, 4, []),
  .inl (1, 4, []),
  .inl (1, 104, []),
  .inl (0, 104, []),
  .inl (0, 104, []),
  .inl (0, 104, []),
  .inl (1, 104, []),
  .inl (1, 104, []),
  .inl (0, 104, []),
  .inl (0, 4, []),
  .inl (0, 4, []),
  .inl (0, 4, []),
  .inl (0, 4, []),
  .inl (0, 4, []),
  .inl (0, 4, []),
  .inl (0, 4, []),
  .inl (0, 4, []),
  .inl (0, 4, []),
  .inl (0, 24, []),
  .inl (0, 16, []),
  .inl (0, 16, []),
  .inl (0, 4, []),
  .inl (0, 32, []),
  .inl (0, 4, []),
  .inl (0, 64, []),
  .inl (0, 4, []),
  .inl (0, 16, [])]
def fcel (μ : Mu) (k : Nat) : Nat → List (Nat ⊕ Nat) → List Value
  | _, [] => []
  | j, .inl 0 :: r => .int (μ.1 k j) :: fcel μ k (j + 1) r
  | j, .inl (_ + 1) :: r => .long (μ.2.2 k) :: fcel μ k (j + 1) r
  | j, .inr x :: r => .ref x :: fcel μ k (j + 1) r
def cel (μ : Mu) (k : Nat) (sh : Sh) : AE := match sh with
  | .inl (0, n, _) => .inl (0, n, .inl (μ.2.1 k))
  | .inl (1, n, _) => .inl (1, n, .inl (μ.2.1 k))
  | .inl (t + 2, n, rs) => .inl (t + 2, n, .inr (.inr (.inr (.inr (fun j => rs.getD j none)))))
  | .inr (ci, fl) => .inr (ci, fcel μ k 0 fl)
def lay1 (μ : Mu) : Nat → List Sh → List AE
  | _, [] => []
  | k, s :: r => cel μ k s :: lay1 μ (k + 1) r
theorem lay1_get (μ : Mu) : ∀ (S : List Sh) (i k : Nat), (lay1 μ i S)[k]? = (S[k]?).map (cel μ (i + k))
  | [], i, k => by simp [lay1]
  | s :: S, i, 0 => by simp [lay1]
  | s :: S, i, k + 1 => by
    simp only [lay1, List.getElem?_cons_succ]
    rw [lay1_get μ S (i + 1) k, show i + 1 + k = i + (k + 1) by omega]
theorem lay1_len (μ : Mu) : ∀ (S : List Sh) (i : Nat), (lay1 μ i S).length = S.length
  | [], i => rfl
  | s :: S, i => by simp only [lay1, List.length_cons, lay1_len μ S (i + 1)]
theorem lay1_put (μ μ' : Mu) (S : List Sh) (k : Nat) (sh : Sh) (e : AE) (hs : S[k]? = some sh) (hμ : ∀ k', k' ≠ k → ∀ x, cel μ' k' x = cel μ k' x) (he : e = cel μ' k sh) : (lay1 μ 0 S).set k e = lay1 μ' 0 S := by
  apply List.ext_getElem?
  intro j
  rw [lay1_get, Nat.zero_add]
  by_cases hj : k = j
  · subst hj
    rw [hs, List.getElem?_set]
    simp only [if_true]
    have hk : k < S.length := (List.getElem?_eq_some_iff.mp hs).1
    rw [lay1_len, if_pos hk, he]
    rfl
  · rw [List.getElem?_set_ne hj, lay1_get, Nat.zero_add]
    cases S[j]? with
    | none => rfl
    | some x => rw [Option.map_some, Option.map_some, hμ j (fun h => hj h.symm) x]
def lay (μ : Mu) : List AE := lay1 μ 0 shapes
theorem lay_at {μ : Mu} {k : Nat} {sh : Sh} (h : shapes[k]? = some sh) : (lay μ)[k]? = some (cel μ k sh) := by
  unfold lay
  rw [lay1_get, h, Nat.zero_add]
  rfl
def setF (μ : Mu) (k j : Nat) (v : Int32) : Mu := (fun a b => if a = k ∧ b = j then v else μ.1 a b, μ.2.1, μ.2.2)
def setA (μ : Mu) (k i : Nat) (v : Int32) : Mu := (μ.1, fun a b => if a = k ∧ b = i then v else μ.2.1 a b, μ.2.2)
def setG (μ : Mu) (k : Nat) (f : Nat → Int32) : Mu := (μ.1, fun a => if a = k then f else μ.2.1 a, μ.2.2)
def setJ (μ : Mu) (k : Nat) (v : Int64) : Mu := (μ.1, μ.2.1, fun a => if a = k then v else μ.2.2 a)
theorem fcel_len (μ : Mu) (k : Nat) : ∀ (fl : List (Nat ⊕ Nat)) (i : Nat), (fcel μ k i fl).length = fl.length
  | [], i => rfl
  | .inl 0 :: r, i => by simp only [fcel, List.length_cons, fcel_len μ k r (i + 1)]
  | .inl (_ + 1) :: r, i => by simp only [fcel, List.length_cons, fcel_len μ k r (i + 1)]
  | .inr x :: r, i => by simp only [fcel, List.length_cons, fcel_len μ k r (i + 1)]
theorem fcel_getI (μ : Mu) (k : Nat) : ∀ (fl : List (Nat ⊕ Nat)) (i j : Nat), fl[j]? = some (.inl 0) → (fcel μ k i fl)[j]? = some (.int (μ.1 k (i + j)))
  | [], i, j, h => by simp at h
  | x :: r, i, 0, h => by
    simp only [List.getElem?_cons_zero, Option.some.injEq] at h
    subst h
    simp [fcel]
  | x :: r, i, j + 1, h => by
    have h2 := fcel_getI μ k r (i + 1) j (by simpa using h)
    rw [show i + 1 + j = i + (j + 1) by omega] at h2
    match x with
    | .inl 0 => simpa [fcel] using h2
    | .inl (_ + 1) => simpa [fcel] using h2
    | .inr y => simpa [fcel] using h2
theorem fcel_getJ (μ : Mu) (k : Nat) : ∀ (fl : List (Nat ⊕ Nat)) (i j : Nat), fl[j]? = some (.inl 1) → (fcel μ k i fl)[j]? = some (.long (μ.2.2 k))
  | [], i, j, h => by simp at h
  | x :: r, i, 0, h => by
    simp only [List.getElem?_cons_zero, Option.some.injEq] at h
    subst h
    simp [fcel]
  | x :: r, i, j + 1, h => by
    have h2 := fcel_getJ μ k r (i + 1) j (by simpa using h)
    match x with
    | .inl 0 => simpa [fcel] using h2
    | .inl (_ + 1) => simpa [fcel] using h2
    | .inr y => simpa [fcel] using h2
theorem fcel_getR (μ : Mu) (k : Nat) {z : Nat} : ∀ (fl : List (Nat ⊕ Nat)) (i j : Nat), fl[j]? = some (.inr z) → (fcel μ k i fl)[j]? = some (.ref z)
  | [], i, j, h => by simp at h
  | x :: r, i, 0, h => by
    simp only [List.getElem?_cons_zero, Option.some.injEq] at h
    subst h
    simp [fcel]
  | x :: r, i, j + 1, h => by
    have h2 := fcel_getR μ k r (i + 1) j (by simpa using h)
    match x with
    | .inl 0 => simpa [fcel] using h2
    | .inl (_ + 1) => simpa [fcel] using h2
    | .inr y => simpa [fcel] using h2
/-- two memories that differ in one number of a cell -/
theorem fcel_set (μ μ' : Mu) (k : Nat) (v : Value) : ∀ (fl : List (Nat ⊕ Nat)) (i j : Nat), (fcel μ' k i fl)[j]? = some v → (∀ j', j' ≠ j → (fcel μ' k i fl)[j']? = (fcel μ k i fl)[j']?) → (fcel μ k i fl).set j v = fcel μ' k i fl := by
  intro fl i j h1 h2
  apply List.ext_getElem?
  intro j'
  by_cases hj : j = j'
  · subst hj
    rw [List.getElem?_set]
    simp only [if_true]
    have hl : j < (fcel μ k i fl).length := by
      rw [fcel_len, ← fcel_len μ' k fl i]
      exact (List.getElem?_eq_some_iff.mp h1).1
    rw [if_pos hl, h1]
  · rw [List.getElem?_set_ne hj, h2 j' (fun h => hj h.symm)]
theorem fcel_same (μ μ' : Mu) (k : Nat) : ∀ (fl : List (Nat ⊕ Nat)) (i j : Nat), (fl[j]? = some (.inl 0) → μ'.1 k (i + j) = μ.1 k (i + j)) → ((∃ n, fl[j]? = some (.inl (n + 1))) → μ'.2.2 k = μ.2.2 k) → (fcel μ' k i fl)[j]? = (fcel μ k i fl)[j]?
  | [], i, j, _, _ => rfl
  | x :: r, i, 0, h1, h2 => by
    match x with
    | .inl 0 => simp only [fcel, List.getElem?_cons_zero]; rw [show μ'.1 k i = μ.1 k i from by simpa using h1]
    | .inl (n + 1) => simp only [fcel, List.getElem?_cons_zero]; rw [h2 ⟨n, by simp⟩]
    | .inr y => simp only [fcel, List.getElem?_cons_zero]
  | x :: r, i, j + 1, h1, h2 => by
    have ih := fcel_same μ μ' k r (i + 1) j (by rw [show i + 1 + j = i + (j + 1) by omega]; simpa using h1) (by simpa using h2)
    match x with
    | .inl 0 => simpa [fcel] using ih
    | .inl (_ + 1) => simpa [fcel] using ih
    | .inr y => simpa [fcel] using ih
theorem cel_off {μ μ' : Mu} {k' : Nat} (h1 : ∀ j, μ'.1 k' j = μ.1 k' j) (h2 : μ'.2.1 k' = μ.2.1 k') (h3 : μ'.2.2 k' = μ.2.2 k') (x : Sh) : cel μ' k' x = cel μ k' x := by
  match x with
  | .inl (0, n, rs) => simp only [cel, h2]
  | .inl (1, n, rs) => simp only [cel, h2]
  | .inl (t + 2, n, rs) => rfl
  | .inr (ci, fl) =>
    simp only [cel]
    congr 2
    apply List.ext_getElem?
    intro j
    exact fcel_same μ μ' k' fl 0 j (fun _ => h1 _) (fun _ => h3)
theorem lay_setF {μ : Mu} {k j ci : Nat} {fl : List (Nat ⊕ Nat)} {v : Int32} (hs : shapes[k]? = some (.inr (ci, fl))) (hf : fl[j]? = some (.inl 0)) : (lay μ).set k (.inr (ci, (fcel μ k 0 fl).set j (.int v))) = lay (setF μ k j v) := by
  refine lay1_put μ (setF μ k j v) shapes k _ _ hs (fun k' hk x => cel_off (μ := μ) (μ' := (setF μ k j v)) (fun b => ?_) rfl rfl x) ?_
  · exact if_neg fun h => hk h.1
  · show _ = Sum.inr (ci, fcel (setF μ k j v) k 0 fl)
    rw [fcel_set μ (setF μ k j v) k (.int v) fl 0 j ?_ ?_]
    · rw [fcel_getI (setF μ k j v) k fl 0 j hf, Nat.zero_add]
      show some (Value.int (if k = k ∧ j = j then v else μ.1 k j)) = _
      rw [if_pos ⟨rfl, rfl⟩]
    · intro j' hj
      refine fcel_same μ (setF μ k j v) k fl 0 j' (fun _ => ?_) (fun _ => rfl)
      show (if k = k ∧ 0 + j' = j then v else μ.1 k (0 + j')) = _
      rw [if_neg]
      rintro ⟨-, h⟩
      exact hj (by omega)
theorem lay_setJ {μ : Mu} {k j ci : Nat} {fl : List (Nat ⊕ Nat)} {v : Int64} (hs : shapes[k]? = some (.inr (ci, fl))) (hf : fl[j]? = some (.inl 1)) (hu : ∀ j' n, fl[j']? = some (.inl (n + 1)) → j' = j) : (lay μ).set k (.inr (ci, (fcel μ k 0 fl).set j (.long v))) = lay (setJ μ k v) := by
  refine lay1_put μ (setJ μ k v) shapes k _ _ hs (fun k' hk x => cel_off (μ := μ) (μ' := (setJ μ k v)) (fun b => rfl) rfl (if_neg hk) x) ?_
  · show _ = Sum.inr (ci, fcel (setJ μ k v) k 0 fl)
    rw [fcel_set μ (setJ μ k v) k (.long v) fl 0 j ?_ ?_]
    · rw [fcel_getJ (setJ μ k v) k fl 0 j hf]
      show some (Value.long (if k = k then v else μ.2.2 k)) = _
      rw [if_pos rfl]
    · intro j' hj
      exact fcel_same μ (setJ μ k v) k fl 0 j' (fun _ => rfl) (fun ⟨n, hn⟩ => absurd (hu j' n hn) hj)
theorem lay_setA {μ : Mu} {k n i t : Nat} {rs : List (Option Nat)} {v : Int32} (ht : t < 2) (hs : shapes[k]? = some (.inl (t, n, rs))) : (lay μ).set k (.inl (t, n, .inl (upd (μ.2.1 k) i v))) = lay (setA μ k i v) := by
  refine lay1_put μ (setA μ k i v) shapes k _ _ hs (fun k' hk x => cel_off (μ := μ) (μ' := (setA μ k i v)) (fun b => rfl) ?_ rfl x) ?_
  · funext b
    exact if_neg fun h => hk h.1
  · have h1 : (setA μ k i v).2.1 k = upd (μ.2.1 k) i v := by
      funext b
      show (if k = k ∧ b = i then v else μ.2.1 k b) = if b = i then v else μ.2.1 k b
      by_cases hb : b = i
      · rw [if_pos ⟨rfl, hb⟩, if_pos hb]
      · rw [if_neg fun h => hb h.2, if_neg hb]
    match t, ht with
    | 0, _ => simp only [cel, h1]
    | 1, _ => simp only [cel, h1]
theorem lay_setG {μ : Mu} {k n t : Nat} {rs : List (Option Nat)} {f : Nat → Int32} (ht : t < 2) (hs : shapes[k]? = some (.inl (t, n, rs))) : (lay μ).set k (.inl (t, n, .inl f)) = lay (setG μ k f) := by
  refine lay1_put μ (setG μ k f) shapes k _ _ hs (fun k' hk x => cel_off (μ := μ) (μ' := (setG μ k f)) (fun b => rfl) (if_neg hk) rfl x) ?_
  · have h1 : (setG μ k f).2.1 k = f := if_pos rfl
    match t, ht with
    | 0, _ => simp only [cel, h1]
    | 1, _ => simp only [cel, h1]
section GOLAY
variable {E : Lx} {Y : Mt} {al : Bool} {R : Room} {cs ss pc : Nat} {L : List (Option Value)} {st : List Value} {μ : Mu} {Φ : Post}
theorem go_getI {k ci j idx : Nat} {fl : List (Nat ⊕ Nat)} (hs : shapes[k]? = some (.inr (ci, fl))) (hf : fl[j]? = some (.inl 0)) (hF : FL Y.1.cls idx ci j) (d : decode Y.2.1 pc = .ok (.getfield idx, 3)) (kk : Go E Y al R cs ss (pc + 3) L (.int (μ.1 k j) :: st) (lay μ) Φ) : Go E Y al R cs ss pc L (.ref k :: st) (lay μ) Φ :=
  go_get (lay_at hs) hF (by rw [fcel_getI μ k fl 0 j hf, Nat.zero_add]) d kk
theorem go_getJ {k ci j idx : Nat} {fl : List (Nat ⊕ Nat)} (hs : shapes[k]? = some (.inr (ci, fl))) (hf : fl[j]? = some (.inl 1)) (hF : FL Y.1.cls idx ci j) (d : decode Y.2.1 pc = .ok (.getfield idx, 3)) (kk : Go E Y al R cs ss (pc + 3) L (.long (μ.2.2 k) :: st) (lay μ) Φ) : Go E Y al R cs ss pc L (.ref k :: st) (lay μ) Φ :=
  go_get (lay_at hs) hF (fcel_getJ μ k fl 0 j hf) d kk
theorem go_getR {k ci j idx r : Nat} {fl : List (Nat ⊕ Nat)} (hs : shapes[k]? = some (.inr (ci, fl))) (hf : fl[j]? = some (.inr r)) (hF : FL Y.1.cls idx ci j) (d : decode Y.2.1 pc = .ok (.getfield idx, 3)) (kk : Go E Y al R cs ss (pc + 3) L (.ref r :: st) (lay μ) Φ) : Go E Y al R cs ss pc L (.ref k :: st) (lay μ) Φ :=
  go_get (lay_at hs) hF (fcel_getR μ k fl 0 j hf) d kk
theorem go_putI {k ci j idx : Nat} {fl : List (Nat ⊕ Nat)} {v : Int32} (hs : shapes[k]? = some (.inr (ci, fl))) (hf : fl[j]? = some (.inl 0)) (hF : FP Y.1 idx ci j .int) (d : decode Y.2.1 pc = .ok (.putfield idx, 3)) (kk : Go E Y al R cs ss (pc + 3) L st (lay (setF μ k j v)) Φ) : Go E Y al R cs ss pc L (.int v :: .ref k :: st) (lay μ) Φ :=
  go_put (lay_at hs) hF (fun _ => rfl) (fun _ => rfl) (by rw [fcel_len]; exact (List.getElem?_eq_some_iff.mp hf).1) d (by rw [lay_setF hs hf]; exact kk)
theorem go_putZ {k ci j idx : Nat} {fl : List (Nat ⊕ Nat)} {v : Int32} (hv : v = 0 ∨ v = 1) (hs : shapes[k]? = some (.inr (ci, fl))) (hf : fl[j]? = some (.inl 0)) (hF : FP Y.1 idx ci j .boolean) (d : decode Y.2.1 pc = .ok (.putfield idx, 3)) (kk : Go E Y al R cs ss (pc + 3) L st (lay (setF μ k j v)) Φ) : Go E Y al R cs ss pc L (.int v :: .ref k :: st) (lay μ) Φ :=
  go_put (lay_at hs) hF (fun _ => by rcases hv with rfl | rfl <;> rfl) (fun _ => by rcases hv with rfl | rfl <;> rfl) (by rw [fcel_len]; exact (List.getElem?_eq_some_iff.mp hf).1) d (by rw [lay_setF hs hf]; exact kk)
theorem go_putJ {k ci j idx : Nat} {fl : List (Nat ⊕ Nat)} {v : Int64} (hs : shapes[k]? = some (.inr (ci, fl))) (hf : fl[j]? = some (.inl 1)) (hu : ∀ j' n, fl[j']? = some (.inl (n + 1)) → j' = j) (hF : FP Y.1 idx ci j .long) (d : decode Y.2.1 pc = .ok (.putfield idx, 3)) (kk : Go E Y al R cs ss (pc + 3) L st (lay (setJ μ k v)) Φ) : Go E Y al R cs ss pc L (.long v :: .ref k :: st) (lay μ) Φ :=
  go_put (lay_at hs) hF (fun _ => rfl) (fun _ => rfl) (by rw [fcel_len]; exact (List.getElem?_eq_some_iff.mp hf).1) d (by rw [lay_setJ hs hf hu]; exact kk)
theorem go_aldI {k n : Nat} {rs : List (Option Nat)} {i : Int32} (hs : shapes[k]? = some (.inl (0, n, rs))) (hin : vp_in i n) (d : decode Y.2.1 pc = .ok (.iaload, 1)) (kk : Go E Y al R cs ss (pc + 1) L (.int (μ.2.1 k i.toNatClampNeg) :: st) (lay μ) Φ) : Go E Y al R cs ss pc L (.int i :: .ref k :: st) (lay μ) Φ :=
  go_iald (lay_at hs) hin d kk
theorem go_aldZ {k n : Nat} {rs : List (Option Nat)} {i : Int32} (hs : shapes[k]? = some (.inl (1, n, rs))) (hin : vp_in i n) (d : decode Y.2.1 pc = .ok (.baload, 1)) (kk : Go E Y al R cs ss (pc + 1) L (.int (μ.2.1 k i.toNatClampNeg) :: st) (lay μ) Φ) : Go E Y al R cs ss pc L (.int i :: .ref k :: st) (lay μ) Φ :=
  go_zald (lay_at hs) hin d kk
theorem go_astI {k n : Nat} {rs : List (Option Nat)} {i x : Int32} (hs : shapes[k]? = some (.inl (0, n, rs))) (hin : vp_in i n) (d : decode Y.2.1 pc = .ok (.iastore, 1)) (kk : Go E Y al R cs ss (pc + 1) L st (lay (setA μ k i.toNatClampNeg x)) Φ) : Go E Y al R cs ss pc L (.int x :: .int i :: .ref k :: st) (lay μ) Φ :=
  go_iast (lay_at hs) hin d (by rw [lay_setA (by decide) hs]; exact kk)
theorem nar_z {x : Int32} (hx : x = 0 ∨ x = 1) : vp_nar .boolean x = x := by
  rcases hx with rfl | rfl <;> rfl
theorem go_astZ {k n : Nat} {rs : List (Option Nat)} {i x : Int32} (hx : x = 0 ∨ x = 1) (hs : shapes[k]? = some (.inl (1, n, rs))) (hin : vp_in i n) (d : decode Y.2.1 pc = .ok (.bastore, 1)) (kk : Go E Y al R cs ss (pc + 1) L st (lay (setA μ k i.toNatClampNeg x)) Φ) : Go E Y al R cs ss pc L (.int x :: .int i :: .ref k :: st) (lay μ) Φ :=
  go_zast (lay_at hs) hin d (by rw [nar_z hx, lay_setA (by decide) hs]; exact kk)
theorem go_aldR {k n t r : Nat} {C : String} {rs : List (Option Nat)} {i : Int32} (hs : shapes[k]? = some (.inl (t + 2, n, rs))) (ht : tyk (t + 2) = .object C) (hin : vp_in i n) (hr : rs.getD i.toNatClampNeg none = some r) (d : decode Y.2.1 pc = .ok (.aaload, 1)) (kk : Go E Y al R cs ss (pc + 1) L (.ref r :: st) (lay μ) Φ) : Go E Y al R cs ss pc L (.int i :: .ref k :: st) (lay μ) Φ :=
  go_aald (lay_at hs) ht hin hr d kk
theorem go_lenA {k n t : Nat} {rs : List (Option Nat)} {v : Int32} (hs : shapes[k]? = some (.inl (t, n, rs))) (hv : Int32.ofNat n = v) (d : decode Y.2.1 pc = .ok (.arraylength, 1)) (kk : Go E Y al R cs ss (pc + 1) L (.int v :: st) (lay μ) Φ) : Go E Y al R cs ss pc L (.ref k :: st) (lay μ) Φ := by
  have h := lay_at (μ := μ) hs
  match t, h with
  | 0, h => exact go_alen h hv d kk
  | 1, h => exact go_alen h hv d kk
  | t + 2, h => exact go_alen h hv d kk
end GOLAY
end
section
/-! What the printed preconditions are made of. -/
def rmd (d : Nat) : Room := { frames := d, cells := 0, slots := 0, locals := 48 * d }
def PV (Q : Mu → Prop) : Post := fun r M' => ∃ μ' : Mu, r = none ∧ M' = lay μ' ∧ Q μ'
def PI (Q : Int32 → Mu → Prop) : Post := fun r M' => ∃ (x : Int32) (μ' : Mu), r = some (.int x) ∧ M' = lay μ' ∧ Q x μ'
def PJ (Q : Int64 → Mu → Prop) : Post := fun r M' => ∃ (x : Int64) (μ' : Mu), r = some (.long x) ∧ M' = lay μ' ∧ Q x μ'
def PR (Q : Nat → Mu → Prop) : Post := fun r M' => ∃ (x : Nat) (μ' : Mu), r = some (.ref x) ∧ M' = lay μ' ∧ Q x μ'
theorem in_lt {i : Int32} {n : Nat} (h : vp_in i n) : i.toNatClampNeg < n := Nat.lt_of_not_le fun h2 => h (Or.inr h2)
theorem nar_zv {v : Int32} (h : v = 0 ∨ v = 1) : narrow .boolean (.int v) = .int v := by
  rcases h with rfl | rfl <;> rfl
def lle : List (Option Value) → List (Option Value) → Prop
  | [], _ => True
  | _ :: _, [] => False
  | none :: a, _ :: b => lle a b
  | some v :: a, w :: b => w = some v ∧ lle a b
theorem lle_at : ∀ {a b : List (Option Value)}, lle a b → ∀ (i : Nat) (v : Value), a[i]? = some (some v) → b[i]? = some (some v)
  | [], _, _, i, v, h => by simp at h
  | x :: a, [], hl, i, v, h => hl.elim
  | none :: a, y :: b, hl, 0, v, h => by simp at h
  | none :: a, y :: b, hl, i + 1, v, h => by
    have h2 := lle_at (a := a) (b := b) hl i v (by simpa using h)
    simpa using h2
  | some x :: a, y :: b, hl, 0, v, h => by
    simp only [List.getElem?_cons_zero, Option.some.injEq] at h
    subst h
    simp [hl.1]
  | some x :: a, y :: b, hl, i + 1, v, h => by
    have h2 := lle_at (a := a) (b := b) hl.2 i v (by simpa using h)
    simpa using h2
section GOWP
variable {E : Lx} {Y : Mt} {al : Bool} {R : Room} {cs ss pc : Nat} {L : List (Option Value)} {st : List Value} {μ : Mu} {Φ : Post}
theorem go_putIn {k ci j idx : Nat} {fl : List (Nat ⊕ Nat)} {v : Int32} (hs : shapes[k]? = some (.inr (ci, fl))) (hf : fl[j]? = some (.inl 0)) (hF : FP Y.1 idx ci j .int) (d : decode Y.2.1 pc = .ok (.putfield idx, 3)) (kk : ∀ μ' : Mu, μ' = setF μ k j v → Go E Y al R cs ss (pc + 3) L st (lay μ') Φ) : Go E Y al R cs ss pc L (.int v :: .ref k :: st) (lay μ) Φ := go_putI hs hf hF d (kk _ rfl)
theorem go_putZn {k ci j idx : Nat} {fl : List (Nat ⊕ Nat)} {v : Int32} (hv : v = 0 ∨ v = 1) (hs : shapes[k]? = some (.inr (ci, fl))) (hf : fl[j]? = some (.inl 0)) (hF : FP Y.1 idx ci j .boolean) (d : decode Y.2.1 pc = .ok (.putfield idx, 3)) (kk : ∀ μ' : Mu, μ' = setF μ k j v → Go E Y al R cs ss (pc + 3) L st (lay μ') Φ) : Go E Y al R cs ss pc L (.int v :: .ref k :: st) (lay μ) Φ := go_putZ hv hs hf hF d (kk _ rfl)
theorem go_putJn {k ci j idx : Nat} {fl : List (Nat ⊕ Nat)} {v : Int64} (hs : shapes[k]? = some (.inr (ci, fl))) (hf : fl[j]? = some (.inl 1)) (hu : ∀ j' < fl.length, fl[j']? = some (.inl 1) → j' = j) (hw : fl.all (fun x => match x with | .inl n => n ≤ 1 | .inr _ => true) = true) (hF : FP Y.1 idx ci j .long) (d : decode Y.2.1 pc = .ok (.putfield idx, 3)) (kk : ∀ μ' : Mu, μ' = setJ μ k v → Go E Y al R cs ss (pc + 3) L st (lay μ') Φ) : Go E Y al R cs ss pc L (.long v :: .ref k :: st) (lay μ) Φ := by
  refine go_putJ hs hf (fun j' n h => ?_) hF d (kk _ rfl)
  have h1 := List.getElem?_eq_some_iff.mp h
  have h2 := List.all_eq_true.mp hw _ (List.mem_of_getElem? h)
  have h3 : n = 0 := by
    simp only [decide_eq_true_eq] at h2
    omega
  subst h3
  exact hu j' h1.1 h
theorem go_astIn {k n : Nat} {rs : List (Option Nat)} {i x : Int32} (hs : shapes[k]? = some (.inl (0, n, rs))) (hin : vp_in i n) (d : decode Y.2.1 pc = .ok (.iastore, 1)) (kk : ∀ μ' : Mu, μ' = setA μ k i.toNatClampNeg x → Go E Y al R cs ss (pc + 1) L st (lay μ') Φ) : Go E Y al R cs ss pc L (.int x :: .int i :: .ref k :: st) (lay μ) Φ := go_astI hs hin d (kk _ rfl)
theorem go_astZn {k n : Nat} {rs : List (Option Nat)} {i x : Int32} (hx : x = 0 ∨ x = 1) (hs : shapes[k]? = some (.inl (1, n, rs))) (hin : vp_in i n) (d : decode Y.2.1 pc = .ok (.bastore, 1)) (kk : ∀ μ' : Mu, μ' = setA μ k i.toNatClampNeg x → Go E Y al R cs ss (pc + 1) L st (lay μ') Φ) : Go E Y al R cs ss pc L (.int x :: .int i :: .ref k :: st) (lay μ) Φ := go_astZ hx hs hin d (kk _ rfl)
theorem go_mmax {x y : Int32} {idx : Nat} (hw : gin (.methodLink Y.1.cls idx Lib.Math.max.name) ∧ gin (.static Lib.Math.max.name) ∧ gin (.initialized "java/lang/Math") ∧ gin (.code Lib.Math.max.name Lib.Math.max.code 2 (some .int))) (hfr : 1 ≤ R.frames) (hlo : (st.map Value.category).sum + 13 ≤ R.locals) (d : decode Y.2.1 pc = .ok (.invokestatic idx, 3)) (kk : Go E Y al R cs ss (pc + 3) L (.int (if x < y then y else x) :: st) (lay μ) Φ) : Go E Y al R cs ss pc L (.int y :: .int x :: st) (lay μ) Φ := by
  intro p e s m args below meth c D kc ad A H locs ls Q X
  refine va_mmax X.1.1 X.1.2.1 (X.1.2.2.1.trans X.2.2.2.2.2.2.1.1.symm) X.1.2.2.2.2.2.1 (X.1.2.2.2.2.2.2.1 _ hw.1) (X.1.2.2.2.2.2.2.1 _ hw.2.1) (X.1.2.2.2.2.2.2.1 _ hw.2.2.1) (X.1.2.2.2.2.2.2.1 _ hw.2.2.2) hfr ?_ X.2.2.2.2.2.2.2.1 X.2.2.2.2.2.2.2.2.1 d (kk p e s m args below meth c D kc ad A H locs ls Q X)
  have h2 : ((st.map (gv ad)).map fun v => v.category) = st.map Value.category := by
    rw [List.map_map]
    exact List.map_congr_left fun v _ => gv_cat ad v
  show ((st.map (gv ad)).map fun v => v.category).sum + 13 ≤ R.locals
  rw [h2]
  exact hlo
theorem go_mmin {x y : Int32} {idx : Nat} (hw : gin (.methodLink Y.1.cls idx Lib.Math.min.name) ∧ gin (.static Lib.Math.min.name) ∧ gin (.initialized "java/lang/Math") ∧ gin (.code Lib.Math.min.name Lib.Math.min.code 2 (some .int))) (hfr : 1 ≤ R.frames) (hlo : (st.map Value.category).sum + 13 ≤ R.locals) (d : decode Y.2.1 pc = .ok (.invokestatic idx, 3)) (kk : Go E Y al R cs ss (pc + 3) L (.int (if y < x then y else x) :: st) (lay μ) Φ) : Go E Y al R cs ss pc L (.int y :: .int x :: st) (lay μ) Φ := by
  intro p e s m args below meth c D kc ad A H locs ls Q X
  refine va_mmin X.1.1 X.1.2.1 (X.1.2.2.1.trans X.2.2.2.2.2.2.1.1.symm) X.1.2.2.2.2.2.1 (X.1.2.2.2.2.2.2.1 _ hw.1) (X.1.2.2.2.2.2.2.1 _ hw.2.1) (X.1.2.2.2.2.2.2.1 _ hw.2.2.1) (X.1.2.2.2.2.2.2.1 _ hw.2.2.2) hfr ?_ X.2.2.2.2.2.2.2.1 X.2.2.2.2.2.2.2.2.1 d (kk p e s m args below meth c D kc ad A H locs ls Q X)
  have h2 : ((st.map (gv ad)).map fun v => v.category) = st.map Value.category := by
    rw [List.map_map]
    exact List.map_congr_left fun v _ => gv_cat ad v
  show ((st.map (gv ad)).map fun v => v.category).sum + 13 ≤ R.locals
  rw [h2]
  exact hlo
theorem go_copyin {k1 k2 n1 n2 idx : Nat} {r1 r2 : List (Option Nat)} {sp dp n : Int32} (hw : gin (.methodLink Y.1.cls idx arraycopyName) ∧ gin (.native arraycopyName) ∧ gin (.static arraycopyName) ∧ gin (.initialized "java/lang/System")) (hs1 : shapes[k1]? = some (.inl (0, n1, r1))) (hs2 : shapes[k2]? = some (.inl (0, n2, r2))) (c1 : ¬ sp < 0) (c2 : ¬ dp < 0) (c3 : ¬ n < 0) (c4 : sp.toNatClampNeg + n.toNatClampNeg ≤ n1) (c5 : dp.toNatClampNeg + n.toNatClampNeg ≤ n2) (hfr : 1 ≤ R.frames) (hlo : (st.map Value.category).sum + (nativeFrameWords "java/lang/System" "arraycopy" 5 + 11) ≤ R.locals) (d : decode Y.2.1 pc = .ok (.invokestatic idx, 3)) (kk : ∀ μ' : Mu, μ' = setG μ k2 (va_cpy (μ.2.1 k1) (μ.2.1 k2) sp.toNatClampNeg dp.toNatClampNeg n.toNatClampNeg) → Go E Y al R cs ss (pc + 3) L st (lay μ') Φ) : Go E Y al R cs ss pc L (.int n :: .int dp :: .ref k2 :: .int sp :: .ref k1 :: st) (lay μ) Φ := by
  intro p e s m args below meth c D kc ad A H locs ls Q X
  have e1 : (lay μ)[k1]? = some (.inl (0, n1, .inl (μ.2.1 k1))) := lay_at hs1
  have e2 : (lay μ)[k2]? = some (.inl (0, n2, .inl (μ.2.1 k2))) := lay_at hs2
  have hK : va_K D gcl [(kc k1, .int), (kc k2, .int)] s := (X.2.1.2.2 k1 0 _ e1).app (X.2.1.2.2 k2 0 _ e2)
  have h2 : ((st.map (gv ad)).map fun v => v.category) = st.map Value.category := by
    rw [List.map_map]
    exact List.map_congr_left fun v _ => gv_cat ad v
  refine va_copyi X.1.1 X.1.2.1 (X.1.2.2.1.trans X.2.2.2.2.2.2.1.1.symm) X.1.2.2.2.2.2.1 (X.1.2.2.2.2.2.2.1 _ hw.1) (X.1.2.2.2.2.2.2.1 _ hw.2.1) (X.1.2.2.2.2.2.2.1 _ hw.2.2.1) (X.1.2.2.2.2.2.2.1 _ hw.2.2.2) hK X.2.1.1 X.2.2.1 X.2.2.2.1 k1 k2 0 1 (gw_at e1) (gw_at e2) rfl rfl rfl c1 c2 c3 c4 c5 (fun _ _ => rfl) hfr (by rw [h2]; exact hlo) d (fun H1 locs1 hP1 hD1 hS1 => ?_)
  refine kk _ rfl p e s m args below meth c D kc ad A H1 locs1 ls Q ?_
  rw [← lay_setG (by decide) hs2]
  exact X.put (fun t a h => by cases h; exact ⟨_, e2⟩) hP1 hD1 hS1
end GOWP
def IsLine (k n : Nat) : Prop := shapes[k]? = some (.inr (1, [.inr (k + 1), .inl 0])) ∧ shapes[k + 1]? = some (.inl (0, n, []))
theorem lt4 {P : Nat → Prop} (h0 : P 0) (h1 : P 1) (h2 : P 2) (h3 : P 3) {t : Nat} (ht : t < 4) : P t := by
  match t, ht with
  | 0, _ => exact h0
  | 1, _ => exact h1
  | 2, _ => exact h2
  | 3, _ => exact h3
theorem sh_host : shapes[0]? = some (.inr (5, [.inl 0, .inr 1, .inr 2, .inl 0, .inl 0])) := rfl
theorem sh_programs : shapes[1]? = some (.inl (2, 4, [some 3, some 8, some 13, some 18])) := rfl
theorem sh_tenants : shapes[2]? = some (.inl (3, 4, [some 23, some 40, some 57, some 74])) := rfl
theorem sh_prog {p : Nat} (hp : p < 4) : shapes[3 + 5 * p]? = some (.inr (2, [.inr (4 + 5 * p), .inr (5 + 5 * p), .inr (6 + 5 * p), .inr (7 + 5 * p), .inl 0, .inl 0, .inl 0])) := lt4 (P := fun p => shapes[3 + 5 * p]? = some (.inr (2, [.inr (4 + 5 * p), .inr (5 + 5 * p), .inr (6 + 5 * p), .inr (7 + 5 * p), .inl 0, .inl 0, .inl 0]))) rfl rfl rfl rfl hp
theorem sh_pops {p : Nat} (hp : p < 4) : shapes[4 + 5 * p]? = some (.inl (0, 24, [])) := lt4 (P := fun p => shapes[4 + 5 * p]? = some (.inl (0, 24, []))) rfl rfl rfl rfl hp
theorem sh_pargs {p : Nat} (hp : p < 4) : shapes[5 + 5 * p]? = some (.inl (0, 24, [])) := lt4 (P := fun p => shapes[5 + 5 * p]? = some (.inl (0, 24, []))) rfl rfl rfl rfl hp
theorem sh_pshapes {p : Nat} (hp : p < 4) : shapes[6 + 5 * p]? = some (.inl (0, 24, [])) := lt4 (P := fun p => shapes[6 + 5 * p]? = some (.inl (0, 24, []))) rfl rfl rfl rfl hp
theorem sh_preached {p : Nat} (hp : p < 4) : shapes[7 + 5 * p]? = some (.inl (0, 24, [])) := lt4 (P := fun p => shapes[7 + 5 * p]? = some (.inl (0, 24, []))) rfl rfl rfl rfl hp
theorem sh_ten {t : Nat} (ht : t < 4) : shapes[23 + 17 * t]? = some (.inr (4, [.inr (24 + 17 * t), .inr (29 + 17 * t), .inr (32 + 17 * t), .inr (33 + 17 * t), .inr (35 + 17 * t), .inr (37 + 17 * t), .inr (39 + 17 * t), .inl 0, .inl 0, .inl 0, .inl 0, .inl 0, .inl 0])) := lt4 (P := fun t => shapes[23 + 17 * t]? = some (.inr (4, [.inr (24 + 17 * t), .inr (29 + 17 * t), .inr (32 + 17 * t), .inr (33 + 17 * t), .inr (35 + 17 * t), .inr (37 + 17 * t), .inr (39 + 17 * t), .inl 0, .inl 0, .inl 0, .inl 0, .inl 0, .inl 0]))) rfl rfl rfl rfl ht
theorem sh_heap {t : Nat} (ht : t < 4) : shapes[24 + 17 * t]? = some (.inr (0, [.inr (25 + 17 * t), .inr (26 + 17 * t), .inr (27 + 17 * t), .inr (28 + 17 * t), .inl 1, .inl 0, .inl 0])) := lt4 (P := fun t => shapes[24 + 17 * t]? = some (.inr (0, [.inr (25 + 17 * t), .inr (26 + 17 * t), .inr (27 + 17 * t), .inr (28 + 17 * t), .inl 1, .inl 0, .inl 0]))) rfl rfl rfl rfl ht
theorem sh_nums {t : Nat} (ht : t < 4) : shapes[25 + 17 * t]? = some (.inl (0, 33, [])) := lt4 (P := fun t => shapes[25 + 17 * t]? = some (.inl (0, 33, []))) rfl rfl rfl rfl ht
theorem sh_lefts {t : Nat} (ht : t < 4) : shapes[26 + 17 * t]? = some (.inl (0, 33, [])) := lt4 (P := fun t => shapes[26 + 17 * t]? = some (.inl (0, 33, []))) rfl rfl rfl rfl ht
theorem sh_rights {t : Nat} (ht : t < 4) : shapes[27 + 17 * t]? = some (.inl (0, 33, [])) := lt4 (P := fun t => shapes[27 + 17 * t]? = some (.inl (0, 33, []))) rfl rfl rfl rfl ht
theorem sh_copies {t : Nat} (ht : t < 4) : shapes[28 + 17 * t]? = some (.inl (0, 33, [])) := lt4 (P := fun t => shapes[28 + 17 * t]? = some (.inl (0, 33, []))) rfl rfl rfl rfl ht
theorem sh_stack {t : Nat} (ht : t < 4) : shapes[29 + 17 * t]? = some (.inr (3, [.inr (30 + 17 * t), .inr (31 + 17 * t), .inl 0])) := lt4 (P := fun t => shapes[29 + 17 * t]? = some (.inr (3, [.inr (30 + 17 * t), .inr (31 + 17 * t), .inl 0]))) rfl rfl rfl rfl ht
theorem sh_values {t : Nat} (ht : t < 4) : shapes[30 + 17 * t]? = some (.inl (0, 6, [])) := lt4 (P := fun t => shapes[30 + 17 * t]? = some (.inl (0, 6, []))) rfl rfl rfl rfl ht
theorem sh_arerefs {t : Nat} (ht : t < 4) : shapes[31 + 17 * t]? = some (.inl (1, 6, [])) := lt4 (P := fun t => shapes[31 + 17 * t]? = some (.inl (1, 6, []))) rfl rfl rfl rfl ht
theorem sh_locs {t : Nat} (ht : t < 4) : shapes[32 + 17 * t]? = some (.inl (0, 4, [])) := lt4 (P := fun t => shapes[32 + 17 * t]? = some (.inl (0, 4, []))) rfl rfl rfl rfl ht
theorem sh_perm {t : Nat} (ht : t < 4) : shapes[39 + 17 * t]? = some (.inl (0, 4, [])) := lt4 (P := fun t => shapes[39 + 17 * t]? = some (.inl (0, 4, []))) rfl rfl rfl rfl ht
theorem isl_mail {t : Nat} (ht : t < 4) : IsLine (33 + 17 * t) 4 := lt4 (P := fun t => IsLine (33 + 17 * t) 4) ⟨rfl, rfl⟩ ⟨rfl, rfl⟩ ⟨rfl, rfl⟩ ⟨rfl, rfl⟩ ht
theorem isl_inputs {t : Nat} (ht : t < 4) : IsLine (35 + 17 * t) 8 := lt4 (P := fun t => IsLine (35 + 17 * t) 8) ⟨rfl, rfl⟩ ⟨rfl, rfl⟩ ⟨rfl, rfl⟩ ⟨rfl, rfl⟩ ht
theorem isl_outputs {t : Nat} (ht : t < 4) : IsLine (37 + 17 * t) 16 := lt4 (P := fun t => IsLine (37 + 17 * t) 16) ⟨rfl, rfl⟩ ⟨rfl, rfl⟩ ⟨rfl, rfl⟩ ⟨rfl, rfl⟩ ht
theorem prog_at {p : Nat} (hp : p < 4) : ([some 3, some 8, some 13, some 18] : List (Option Nat)).getD p none = some (3 + 5 * p) := lt4 (P := fun p => ([some 3, some 8, some 13, some 18] : List (Option Nat)).getD p none = some (3 + 5 * p)) rfl rfl rfl rfl hp
theorem ten_at {p : Nat} (hp : p < 4) : ([some 23, some 40, some 57, some 74] : List (Option Nat)).getD p none = some (23 + 17 * p) := lt4 (P := fun p => ([some 23, some 40, some 57, some 74] : List (Option Nat)).getD p none = some (23 + 17 * p)) rfl rfl rfl rfl hp
theorem sh_model : shapes[91]? = some (.inr (6, [.inl 0, .inr 92, .inr 93, .inr 94, .inr 95, .inr 96, .inr 97, .inr 98, .inr 99, .inr 100, .inl 0, .inr 101, .inr 102, .inr 103, .inr 104, .inr 105, .inr 106, .inr 107, .inr 108, .inr 109, .inr 110, .inr 111, .inr 112, .inr 113, .inr 114, .inr 115, .inr 116, .inr 117, .inr 118, .inr 119, .inr 120, .inr 121, .inl 0])) := rfl
theorem sh_m_ops : shapes[92]? = some (.inl (0, 96, [])) := rfl
theorem sh_m_argOf : shapes[93]? = some (.inl (0, 96, [])) := rfl
theorem sh_m_shapes : shapes[94]? = some (.inl (0, 96, [])) := rfl
theorem sh_m_many : shapes[95]? = some (.inl (0, 4, [])) := rfl
theorem sh_m_sealed : shapes[96]? = some (.inl (1, 4, [])) := rfl
theorem sh_m_there : shapes[97]? = some (.inl (1, 104, [])) := rfl
theorem sh_m_num : shapes[98]? = some (.inl (0, 104, [])) := rfl
theorem sh_m_left : shapes[99]? = some (.inl (0, 104, [])) := rfl
theorem sh_m_right : shapes[100]? = some (.inl (0, 104, [])) := rfl
theorem sh_m_mark : shapes[101]? = some (.inl (1, 104, [])) := rfl
theorem sh_m_reached : shapes[102]? = some (.inl (1, 104, [])) := rfl
theorem sh_m_twin : shapes[103]? = some (.inl (0, 104, [])) := rfl
theorem sh_m_cells : shapes[104]? = some (.inl (0, 4, [])) := rfl
theorem sh_m_most : shapes[105]? = some (.inl (0, 4, [])) := rfl
theorem sh_m_states : shapes[106]? = some (.inl (0, 4, [])) := rfl
theorem sh_m_program : shapes[107]? = some (.inl (0, 4, [])) := rfl
theorem sh_m_position : shapes[108]? = some (.inl (0, 4, [])) := rfl
theorem sh_m_stepsOf : shapes[109]? = some (.inl (0, 4, [])) := rfl
theorem sh_m_collects : shapes[110]? = some (.inl (0, 4, [])) := rfl
theorem sh_m_endOf : shapes[111]? = some (.inl (0, 4, [])) := rfl
theorem sh_m_height : shapes[112]? = some (.inl (0, 4, [])) := rfl
theorem sh_m_stack : shapes[113]? = some (.inl (0, 24, [])) := rfl
theorem sh_m_locals : shapes[114]? = some (.inl (0, 16, [])) := rfl
theorem sh_m_mail : shapes[115]? = some (.inl (0, 16, [])) := rfl
theorem sh_m_mails : shapes[116]? = some (.inl (0, 4, [])) := rfl
theorem sh_m_input : shapes[117]? = some (.inl (0, 32, [])) := rfl
theorem sh_m_inputs : shapes[118]? = some (.inl (0, 4, [])) := rfl
theorem sh_m_out : shapes[119]? = some (.inl (0, 64, [])) := rfl
theorem sh_m_outs : shapes[120]? = some (.inl (0, 4, [])) := rfl
theorem sh_m_allowed : shapes[121]? = some (.inl (0, 16, [])) := rfl
end
section
/-! Cells that are made: the addresses grow, and what was there stays. -/
def okr (n r : Nat) : Prop := r < n ∨ 100000 ≤ r
def okV (n : Nat) (v : Value) : Prop := match v with
  | .ref k => okr n k
  | _ => True
def okE (n : Nat) (e : AE) : Prop := match e with
  | .inl (_, (_, .inr (.inr (.inr (.inr f))))) => ∀ j r, f j = some r → okr n r
  | .inl _ => True
  | .inr (_, fs) => ∀ v ∈ fs, okV n v
def okM (M : List AE) : Prop := ∀ e ∈ M, okE M.length e
def okS (n : Nat) (st : List Value) : Prop := ∀ v ∈ st, okV n v
def okL (n : Nat) (L : List (Option Value)) : Prop := ∀ v, some v ∈ L → okV n v
theorem gv_agr {n : Nat} {ad ad' : Nat → Nat} (h : ∀ r, okr n r → ad' r = ad r) {v : Value} (hv : okV n v) : gv ad' v = gv ad v := by
  cases v with
  | ref k => exact congrArg Value.ref (h k hv)
  | _ => rfl
theorem gvs_agr {n : Nat} {ad ad' : Nat → Nat} (h : ∀ r, okr n r → ad' r = ad r) {st : List Value} (hv : okS n st) : st.map (gv ad') = st.map (gv ad) :=
  List.map_congr_left fun v hm => gv_agr h (hv v hm)
theorem lp_agr {n : Nat} {ad ad' : Nat → Nat} (h : ∀ r, okr n r → ad' r = ad r) : ∀ {L : List (Option Value)} {i : Nat}, okL n L → lp ad' i L = lp ad i L
  | [], _, _ => rfl
  | none :: L, i, hv => lp_agr (L := L) (i := i + 1) h (fun v hm => hv v (List.mem_cons_of_mem _ hm))
  | some v :: L, i, hv => by
    simp only [lp]
    rw [gv_agr h (hv v List.mem_cons_self), lp_agr (L := L) (i := i + 1) h (fun v hm => hv v (List.mem_cons_of_mem _ hm))]
theorem ge_agr {n : Nat} {ad ad' : Nat → Nat} (h : ∀ r, okr n r → ad' r = ad r) {e : AE} (he : okE n e) (c : ClassId) : ge c ad' e = ge c ad e := by
  match e with
  | .inl (t, (k, .inl f)) => rfl
  | .inl (t, (k, .inr (.inl f))) => rfl
  | .inl (t, (k, .inr (.inr (.inl f)))) => rfl
  | .inl (t, (k, .inr (.inr (.inr (.inl f))))) => rfl
  | .inl (t, (k, .inr (.inr (.inr (.inr f))))) =>
    have h2 : (fun j => (f j).map ad') = fun j => (f j).map ad := by
      funext j
      cases hf : f j with
      | none => rfl
      | some r => exact congrArg some (h r (he j r hf))
    show Sum.inl (c, k, Sum.inr (Sum.inr (Sum.inr (Sum.inr (fun j => (f j).map ad'))))) = Sum.inl (c, k, Sum.inr (Sum.inr (Sum.inr (Sum.inr (fun j => (f j).map ad)))))
    rw [h2]
  | .inr (ci, fs) =>
    show Sum.inr (ci, fs.map (gv ad')) = Sum.inr (ci, fs.map (gv ad))
    rw [gvs_agr h he]
theorem gw_agr {n : Nat} {kc kc' : Nat → ClassId} {ad ad' : Nat → Nat} (h : ∀ r, okr n r → ad' r = ad r) : ∀ (M : List AE) (i : Nat), (∀ k, i ≤ k → k < i + M.length → kc' k = kc k ∧ ad' k = ad k) → (∀ e ∈ M, okE n e) → gw kc' ad' i M = gw kc ad i M
  | [], _, _, _ => rfl
  | e :: M, i, h1, h2 => by
    simp only [gw]
    obtain ⟨a1, a2⟩ := h1 i (Nat.le_refl _) (by simp only [List.length_cons]; omega)
    rw [a1, a2, ge_agr h (h2 e List.mem_cons_self), gw_agr h M (i + 1) (fun k b1 b2 => h1 k (by omega) (by simp only [List.length_cons]; omega)) (fun e he => h2 e (List.mem_cons_of_mem _ he))]
section GOALLOC
variable {E : Lx} {Y Z : Mt} {R rm : Room} {cs ss pc np idx : Nat} {L : List (Option Value)} {st st0 as : List Value} {M : List AE} {Φ Ψ : Post}
/-- the context behind a new cell -/
theorem Cx.grow {p : Program} {e : Env} {s : State} {m : MethodId} {args : Array Value} {below : List Frame} {meth : Method} {c : Code} {D : va_G} {kc : Nat → ClassId} {ad : Nat → Nat} {A : Nat → Prop} {H H1 : Heap} {locs : List Loc} {ls : Array Slot} {Q : State → Prop} {x : AE} {q : Nat} {cA : ClassId} {cs' ss' : Nat} (X : Cx E Y true R cs ss L M Φ p e s m args below meth c D kc ad A H locs ls Q) (hok : okM M) (hL : okL M.length L) (hlen : M.length < 100000) (hx : ∀ ad', ge cA ad' x = ge cA ad x)
    (hK : ∀ t a, x = .inl (t, a) → va_K D gcl [(cA, tyk t)] s) (hP : va_P D gcl (gw kc ad 0 M ++ [(q, ge cA ad x)]) H1) (hD : va_D A (gw kc ad 0 M ++ [(q, ge cA ad x)])) (hS : va_S A s.heap H1 locs) (hc : cs' ≤ R.cells) (hs : ss' ≤ R.slots) :
    Cx E Y true R cs' ss' L (M ++ [x]) Φ p e s m args below meth c D (fun j => if j = M.length then cA else kc j) (fun j => if j = M.length then q else ad j) A H1 locs ls Q := by
  have ha : ∀ r, okr M.length r → (fun j => if j = M.length then q else ad j) r = ad r := fun r hr => if_neg (fun h => by unfold okr at hr; omega)
  have hg : gw (fun j => if j = M.length then cA else kc j) (fun j => if j = M.length then q else ad j) 0 (M ++ [x]) = gw kc ad 0 M ++ [(q, ge cA ad x)] := by
    rw [gw_app, gw_agr ha M 0 (fun k _ hk => ⟨if_neg (by omega), if_neg (by omega)⟩) hok]
    simp only [Nat.zero_add, if_true]
    rw [hx]
  refine ⟨X.1, ⟨by rw [hg]; exact hP, X.2.1.2.1, fun k t a hk => ?_⟩, by rw [hg]; exact hD, hS, X.2.2.2.2.1, ⟨fun i hi => ?_, ?_⟩, ?_, hc, hs, ?_⟩
  · by_cases hkl : k = M.length
    · subst hkl
      rw [List.getElem?_append_right (Nat.le_refl _), Nat.sub_self] at hk
      simp only [if_true]
      exact hK t a (Option.some.inj hk)
    · simp only [if_neg hkl]
      by_cases h2 : k < M.length
      · rw [List.getElem?_append_left h2] at hk
        exact X.2.1.2.2 k t a hk
      · rw [List.getElem?_append_right (by omega), List.getElem?_eq_none (by simp only [List.length_cons, List.length_nil]; omega)] at hk
        cases hk
  · have h2 := X.2.2.2.2.2.1.1 i hi
    have h3 : (fun j => if j = M.length then q else ad j) (100000 + i) = ad (100000 + i) := if_neg (by omega)
    rw [h3]
    exact h2
  · have h2 := X.2.2.2.2.2.1.2
    have h3 : (fun j => if j = M.length then q else ad j) 100003 = ad 100003 := if_neg (by omega)
    rw [h3]
    exact h2
  · rw [lp_agr ha hL]
    exact X.2.2.2.2.2.2.1
  · intro r M' kc' ad' H' locs' cs2 ss2 pc2 ls2 b1 b2 b3 b4
    rw [List.length_append, List.length_cons, List.length_nil] at b3 b4
    exact X.2.2.2.2.2.2.2.2.2 r M' kc' ad' H' locs' cs2 ss2 pc2 ls2 b1 b2 (by omega) ⟨fun k hk => (b4.1 k (by omega)).trans (if_neg (by omega)), fun k hk => (b4.2 k (by omega)).trans (if_neg (by omega))⟩
theorem go_new {ci N : Nat} {C : String} {T : u_T} {fs : List Value} (hc : gcl[ci]? = some (C, T, N)) (hin : ∀ w ∈ u_ws C T N, gin w) (ty : Nat → FieldType) (hty : ∀ k, k < N → parseFieldDescriptor (T k).2.2.1 = some (ty k)) (hcl : gin (.classLink Y.1.cls idx C)) (hinst : gin (.instantiable C N)) (hini : gin (.initialized C)) (hfs : ∀ j, j < N → defaultValue (ty j) = vp_V fs j) (hnr : ∀ ad : Nat → Nat, fs.map (gv ad) = fs) (hok : okM M) (hS : okS M.length st) (hL : okL M.length L) (hlen : M.length < 100000) (hcs : cs + 1 ≤ R.cells) (hss : ss + N ≤ R.slots) (d : decode Y.2.1 pc = .ok (.new idx, 3)) (kk : Go E Y true R (cs + 1) (ss + N) (pc + 3) L (.ref M.length :: st) (M ++ [.inr (ci, fs)]) Φ) : Go E Y true R cs ss pc L st M Φ := by
  intro p e s m args below meth c D kc ad A H locs ls Q X
  have hts : ∀ w ∈ u_ws C T N, w.before args s = true := fun w h => X.1.2.2.2.2.2.2.1 w (hin w h)
  refine va_new X.1.1 X.1.2.1 hts (fun _ h => h) ty hty X.1.2.2.2.2.2.1 (X.1.2.2.2.2.2.2.1 _ hcl) (X.1.2.2.2.2.2.2.1 _ hinst) (X.1.2.2.2.2.2.2.1 _ hini) X.2.1.2.1 X.2.1.1 X.2.2.1 X.2.2.2.1 X.2.2.2.2.1 hc hfs hcs hss d (fun q H1 hP1 hD1 hS1 => ?_)
  have hx : ∀ ad', ge 0 ad' (.inr (ci, fs)) = (.inr (ci, fs) : va_E) := fun ad' => by
    show Sum.inr (ci, fs.map (gv ad')) = _
    rw [hnr]
  have k2 := kk p e s m args below meth c D (fun j => if j = M.length then 0 else kc j) (fun j => if j = M.length then q else ad j) A H1 locs ls Q (X.grow hok hL hlen (fun ad' => by rw [hx, hx]) (fun t a h => by cases h) (by rw [hx]; exact hP1) (by rw [hx]; exact hD1) hS1 hcs hss)
  have hst : (Value.ref M.length :: st).map (gv (fun j => if j = M.length then q else ad j)) = .ref q :: st.map (gv ad) := by
    rw [List.map_cons, gvs_agr (n := M.length) (fun r hr => if_neg (fun h => by unfold okr at hr; omega)) hS]
    show Value.ref (if M.length = M.length then q else ad M.length) :: _ = _
    rw [if_pos rfl]
  rw [hst] at k2
  exact k2
theorem go_newa {t N' : Nat} {atype : ArrayType} {n : Int32} (harr : gin (.arrayClass (newarray.typeOf atype))) (hty : newarray.typeOf atype = tyk t) (ha : ∀ cA : ClassId, vp_cell cA (N', .inl (fun _ => 0)) = arrV cA N' (fun _ => defaultValue (tyk t))) (hn : ¬ n < 0) (hN : n.toNatClampNeg = N') (hb : N' * componentBytes (tyk t) ≤ 536870912) (hok : okM M) (hS : okS M.length st) (hL : okL M.length L) (hlen : M.length < 100000) (hcs : cs + 1 ≤ R.cells) (hss : ss + N' ≤ R.slots) (d : decode Y.2.1 pc = .ok (.newarray atype, 2)) (kk : Go E Y true R (cs + 1) (ss + N') (pc + 2) L (.ref M.length :: st) (M ++ [.inl (t, N', .inl (fun _ => 0))]) Φ) : Go E Y true R cs ss pc L (.int n :: st) M Φ := by
  intro p e s m args below meth c D kc ad A H locs ls Q X
  refine va_newa X.1.1 X.1.2.1 (X.1.2.2.2.2.2.2.1 _ harr) hty X.2.1.2.1 X.2.1.1 X.2.2.1 X.2.2.2.1 X.2.2.2.2.1 ha hn hN hb hcs hss d (fun q cA H1 hK1 hP1 hD1 hS1 => ?_)
  have k2 := kk p e s m args below meth c D (fun j => if j = M.length then cA else kc j) (fun j => if j = M.length then q else ad j) A H1 locs ls Q (X.grow hok hL hlen (fun ad' => rfl) (fun t a h => by cases h; exact hK1) hP1 hD1 hS1 hcs hss)
  have hst : (Value.ref M.length :: st).map (gv (fun j => if j = M.length then q else ad j)) = .ref q :: st.map (gv ad) := by
    rw [List.map_cons, gvs_agr (n := M.length) (fun r hr => if_neg (fun h => by unfold okr at hr; omega)) hS]
    show Value.ref (if M.length = M.length then q else ad M.length) :: _ = _
    rw [if_pos rfl]
  rw [hst] at k2
  exact k2
end GOALLOC
end
