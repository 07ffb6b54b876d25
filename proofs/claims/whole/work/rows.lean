section
-- ===== PART A: goes FIRST, ahead of the names: the tables' words, and 'selects' of the private methods out of them =====
/-- a private method of a class that the tables say can be made, by its rows of tables_1 -/
def lw_okq (q : MethodName × Nat) : Prop := (q.1.cls ≠ "java/lang/invoke/MethodHandle" ∧ q.1.cls ≠ "java/lang/invoke/VarHandle") ∧ Cond.instantiable q.1.cls q.2 ∈ tables_1 ∧ Cond.privateMethod q.1 ∈ tables_1 ∧ Cond.instanceMethod q.1 ∈ tables_1
theorem lw_p0 : lw_okq (⟨"EnclaveMonitor$Sealer", "derive", "(JI[I)V"⟩, 6) := ⟨⟨by decide +kernel, by decide +kernel⟩, List.mem_of_getElem? (i := 111) (by decide +kernel), List.mem_of_getElem? (i := 119) (by decide +kernel), List.mem_of_getElem? (i := 120) (by decide +kernel)⟩
theorem lw_p1 : lw_okq (⟨"EnclaveMonitor$Hash", "padMessage", "()I"⟩, 4) := ⟨⟨by decide +kernel, by decide +kernel⟩, List.mem_of_getElem? (i := 21) (by decide +kernel), List.mem_of_getElem? (i := 135) (by decide +kernel), List.mem_of_getElem? (i := 136) (by decide +kernel)⟩
theorem lw_p2 : lw_okq (⟨"EnclaveMonitor$Hash", "fillSchedule", "(I)V"⟩, 4) := ⟨⟨by decide +kernel, by decide +kernel⟩, List.mem_of_getElem? (i := 21) (by decide +kernel), List.mem_of_getElem? (i := 145) (by decide +kernel), List.mem_of_getElem? (i := 146) (by decide +kernel)⟩
theorem lw_p3 : lw_okq (⟨"EnclaveMonitor$Hash", "compress", "()V"⟩, 4) := ⟨⟨by decide +kernel, by decide +kernel⟩, List.mem_of_getElem? (i := 21) (by decide +kernel), List.mem_of_getElem? (i := 152) (by decide +kernel), List.mem_of_getElem? (i := 153) (by decide +kernel)⟩
theorem lw_p4 : lw_okq (⟨"EnclaveMonitor", "isOfType", "(II)Z"⟩, 11) := ⟨⟨by decide +kernel, by decide +kernel⟩, List.mem_of_getElem? (i := 13) (by decide +kernel), List.mem_of_getElem? (i := 215) (by decide +kernel), List.mem_of_getElem? (i := 216) (by decide +kernel)⟩
theorem lw_p5 : lw_okq (⟨"EnclaveMonitor", "whyNotAdded", "(II)I"⟩, 11) := ⟨⟨by decide +kernel, by decide +kernel⟩, List.mem_of_getElem? (i := 13) (by decide +kernel), List.mem_of_getElem? (i := 226) (by decide +kernel), List.mem_of_getElem? (i := 227) (by decide +kernel)⟩
theorem lw_p6 : lw_okq (⟨"EnclaveMonitor", "stateOf", "(I)I"⟩, 11) := ⟨⟨by decide +kernel, by decide +kernel⟩, List.mem_of_getElem? (i := 13) (by decide +kernel), List.mem_of_getElem? (i := 230) (by decide +kernel), List.mem_of_getElem? (i := 231) (by decide +kernel)⟩
theorem lw_p7 : lw_okq (⟨"EnclaveMonitor", "extendMeasure", "(LEnclaveMonitor$Page;LEnclaveMonitor$Page;I)V"⟩, 11) := ⟨⟨by decide +kernel, by decide +kernel⟩, List.mem_of_getElem? (i := 13) (by decide +kernel), List.mem_of_getElem? (i := 238) (by decide +kernel), List.mem_of_getElem? (i := 239) (by decide +kernel)⟩
theorem lw_p8 : lw_okq (⟨"EnclaveMonitor", "hasAddress", "(II)Z"⟩, 11) := ⟨⟨by decide +kernel, by decide +kernel⟩, List.mem_of_getElem? (i := 13) (by decide +kernel), List.mem_of_getElem? (i := 254) (by decide +kernel), List.mem_of_getElem? (i := 255) (by decide +kernel)⟩
theorem lw_p9 : lw_okq (⟨"EnclaveMonitor", "isRemovable", "(I)Z"⟩, 11) := ⟨⟨by decide +kernel, by decide +kernel⟩, List.mem_of_getElem? (i := 13) (by decide +kernel), List.mem_of_getElem? (i := 279) (by decide +kernel), List.mem_of_getElem? (i := 280) (by decide +kernel)⟩
theorem lw_p10 : lw_okq (⟨"EnclaveMonitor", "ownedBy", "(I)I"⟩, 11) := ⟨⟨by decide +kernel, by decide +kernel⟩, List.mem_of_getElem? (i := 13) (by decide +kernel), List.mem_of_getElem? (i := 283) (by decide +kernel), List.mem_of_getElem? (i := 284) (by decide +kernel)⟩
theorem lw_p11 : lw_okq (⟨"EnclaveMonitor", "whyNotRun", "(IZI)I"⟩, 11) := ⟨⟨by decide +kernel, by decide +kernel⟩, List.mem_of_getElem? (i := 13) (by decide +kernel), List.mem_of_getElem? (i := 295) (by decide +kernel), List.mem_of_getElem? (i := 296) (by decide +kernel)⟩
theorem lw_p12 : lw_okq (⟨"EnclaveMonitor", "runThread", "(II)I"⟩, 11) := ⟨⟨by decide +kernel, by decide +kernel⟩, List.mem_of_getElem? (i := 13) (by decide +kernel), List.mem_of_getElem? (i := 303) (by decide +kernel), List.mem_of_getElem? (i := 304) (by decide +kernel)⟩
theorem lw_p13 : lw_okq (⟨"EnclaveMonitor$Runner", "step", "([I[I)I"⟩, 5) := ⟨⟨by decide +kernel, by decide +kernel⟩, List.mem_of_getElem? (i := 41) (by decide +kernel), List.mem_of_getElem? (i := 317) (by decide +kernel), List.mem_of_getElem? (i := 318) (by decide +kernel)⟩
theorem lw_p14 : lw_okq (⟨"EnclaveMonitor$Runner", "reach", "(II)LEnclaveMonitor$Page;"⟩, 5) := ⟨⟨by decide +kernel, by decide +kernel⟩, List.mem_of_getElem? (i := 41) (by decide +kernel), List.mem_of_getElem? (i := 321) (by decide +kernel), List.mem_of_getElem? (i := 322) (by decide +kernel)⟩
theorem lw_p15 : lw_okq (⟨"EnclaveMonitor$Runner", "fetch", "([III)Z"⟩, 5) := ⟨⟨by decide +kernel, by decide +kernel⟩, List.mem_of_getElem? (i := 41) (by decide +kernel), List.mem_of_getElem? (i := 328) (by decide +kernel), List.mem_of_getElem? (i := 329) (by decide +kernel)⟩
def lw_privs_1 : List (MethodName × Nat) := [(⟨"EnclaveMonitor$Sealer", "derive", "(JI[I)V"⟩, 6), (⟨"EnclaveMonitor$Hash", "padMessage", "()I"⟩, 4), (⟨"EnclaveMonitor$Hash", "fillSchedule", "(I)V"⟩, 4), (⟨"EnclaveMonitor$Hash", "compress", "()V"⟩, 4), (⟨"EnclaveMonitor", "isOfType", "(II)Z"⟩, 11), (⟨"EnclaveMonitor", "whyNotAdded", "(II)I"⟩, 11), (⟨"EnclaveMonitor", "stateOf", "(I)I"⟩, 11), (⟨"EnclaveMonitor", "extendMeasure", "(LEnclaveMonitor$Page;LEnclaveMonitor$Page;I)V"⟩, 11), (⟨"EnclaveMonitor", "hasAddress", "(II)Z"⟩, 11), (⟨"EnclaveMonitor", "isRemovable", "(I)Z"⟩, 11), (⟨"EnclaveMonitor", "ownedBy", "(I)I"⟩, 11), (⟨"EnclaveMonitor", "whyNotRun", "(IZI)I"⟩, 11), (⟨"EnclaveMonitor", "runThread", "(II)I"⟩, 11), (⟨"EnclaveMonitor$Runner", "step", "([I[I)I"⟩, 5), (⟨"EnclaveMonitor$Runner", "reach", "(II)LEnclaveMonitor$Page;"⟩, 5), (⟨"EnclaveMonitor$Runner", "fetch", "([III)Z"⟩, 5)]
theorem lw_r1 : ∀ q ∈ lw_privs_1, lw_okq q := List.forall_mem_cons.mpr ⟨lw_p0, List.forall_mem_cons.mpr ⟨lw_p1, List.forall_mem_cons.mpr ⟨lw_p2, List.forall_mem_cons.mpr ⟨lw_p3, List.forall_mem_cons.mpr ⟨lw_p4, List.forall_mem_cons.mpr ⟨lw_p5, List.forall_mem_cons.mpr ⟨lw_p6, List.forall_mem_cons.mpr ⟨lw_p7, List.forall_mem_cons.mpr ⟨lw_p8, List.forall_mem_cons.mpr ⟨lw_p9, List.forall_mem_cons.mpr ⟨lw_p10, List.forall_mem_cons.mpr ⟨lw_p11, List.forall_mem_cons.mpr ⟨lw_p12, List.forall_mem_cons.mpr ⟨lw_p13, List.forall_mem_cons.mpr ⟨lw_p14, List.forall_mem_cons.mpr ⟨lw_p15, fun _ h => absurd h List.not_mem_nil⟩⟩⟩⟩⟩⟩⟩⟩⟩⟩⟩⟩⟩⟩⟩⟩
theorem lw_p16 : lw_okq (⟨"EnclaveMonitor$Runner", "store", "(II)Z"⟩, 5) := ⟨⟨by decide +kernel, by decide +kernel⟩, List.mem_of_getElem? (i := 41) (by decide +kernel), List.mem_of_getElem? (i := 332) (by decide +kernel), List.mem_of_getElem? (i := 333) (by decide +kernel)⟩
theorem lw_p17 : lw_okq (⟨"EnclaveMonitor$Runner", "forget", "([I)V"⟩, 5) := ⟨⟨by decide +kernel, by decide +kernel⟩, List.mem_of_getElem? (i := 41) (by decide +kernel), List.mem_of_getElem? (i := 336) (by decide +kernel), List.mem_of_getElem? (i := 337) (by decide +kernel)⟩
theorem lw_p18 : lw_okq (⟨"EnclaveMonitor", "whyNotEvicted", "(III)I"⟩, 11) := ⟨⟨by decide +kernel, by decide +kernel⟩, List.mem_of_getElem? (i := 13) (by decide +kernel), List.mem_of_getElem? (i := 352) (by decide +kernel), List.mem_of_getElem? (i := 353) (by decide +kernel)⟩
theorem lw_p19 : lw_okq (⟨"EnclaveMonitor", "writeBlob", "(LEnclaveMonitor$Page;J)V"⟩, 11) := ⟨⟨by decide +kernel, by decide +kernel⟩, List.mem_of_getElem? (i := 13) (by decide +kernel), List.mem_of_getElem? (i := 365) (by decide +kernel), List.mem_of_getElem? (i := 366) (by decide +kernel)⟩
theorem lw_p20 : lw_okq (⟨"EnclaveMonitor$Sealer", "makeBlock", "(III)V"⟩, 6) := ⟨⟨by decide +kernel, by decide +kernel⟩, List.mem_of_getElem? (i := 111) (by decide +kernel), List.mem_of_getElem? (i := 373) (by decide +kernel), List.mem_of_getElem? (i := 374) (by decide +kernel)⟩
theorem lw_p21 : lw_okq (⟨"EnclaveMonitor$Sealer", "mixQuarter", "(IIII)V"⟩, 6) := ⟨⟨by decide +kernel, by decide +kernel⟩, List.mem_of_getElem? (i := 111) (by decide +kernel), List.mem_of_getElem? (i := 380) (by decide +kernel), List.mem_of_getElem? (i := 381) (by decide +kernel)⟩
theorem lw_p22 : lw_okq (⟨"EnclaveMonitor$Sealer", "beginWithMark", "(I)V"⟩, 6) := ⟨⟨by decide +kernel, by decide +kernel⟩, List.mem_of_getElem? (i := 111) (by decide +kernel), List.mem_of_getElem? (i := 392) (by decide +kernel), List.mem_of_getElem? (i := 393) (by decide +kernel)⟩
theorem lw_p23 : lw_okq (⟨"EnclaveMonitor", "whyNotReloaded", "(IIII)I"⟩, 11) := ⟨⟨by decide +kernel, by decide +kernel⟩, List.mem_of_getElem? (i := 13) (by decide +kernel), List.mem_of_getElem? (i := 406) (by decide +kernel), List.mem_of_getElem? (i := 407) (by decide +kernel)⟩
theorem lw_p24 : lw_okq (⟨"EnclaveMonitor", "isTagged", "()Z"⟩, 11) := ⟨⟨by decide +kernel, by decide +kernel⟩, List.mem_of_getElem? (i := 13) (by decide +kernel), List.mem_of_getElem? (i := 410) (by decide +kernel), List.mem_of_getElem? (i := 411) (by decide +kernel)⟩
theorem lw_p25 : lw_okq (⟨"EnclaveMonitor", "readBlob", "(LEnclaveMonitor$Page;I)V"⟩, 11) := ⟨⟨by decide +kernel, by decide +kernel⟩, List.mem_of_getElem? (i := 13) (by decide +kernel), List.mem_of_getElem? (i := 415) (by decide +kernel), List.mem_of_getElem? (i := 416) (by decide +kernel)⟩
theorem lw_p26 : lw_okq (⟨"EnclaveMonitor", "pagesOfType", "(I)I"⟩, 11) := ⟨⟨by decide +kernel, by decide +kernel⟩, List.mem_of_getElem? (i := 13) (by decide +kernel), List.mem_of_getElem? (i := 435) (by decide +kernel), List.mem_of_getElem? (i := 436) (by decide +kernel)⟩
theorem lw_p27 : lw_okq (⟨"java/lang/Throwable", "fillInStackTrace", "(I)Ljava/lang/Throwable;"⟩, 6) := ⟨⟨by decide +kernel, by decide +kernel⟩, List.mem_of_getElem? (i := 486) (by decide +kernel), List.mem_of_getElem? (i := 484) (by decide +kernel), List.mem_of_getElem? (i := 485) (by decide +kernel)⟩
theorem lw_p28 : lw_okq (⟨"EnclaveMonitorModel", "digest", "(I)V"⟩, 30) := ⟨⟨by decide +kernel, by decide +kernel⟩, List.mem_of_getElem? (i := 523) (by decide +kernel), List.mem_of_getElem? (i := 529) (by decide +kernel), List.mem_of_getElem? (i := 530) (by decide +kernel)⟩
theorem lw_p29 : lw_okq (⟨"EnclaveMonitorModel", "block", "(I)V"⟩, 30) := ⟨⟨by decide +kernel, by decide +kernel⟩, List.mem_of_getElem? (i := 523) (by decide +kernel), List.mem_of_getElem? (i := 536) (by decide +kernel), List.mem_of_getElem? (i := 537) (by decide +kernel)⟩
theorem lw_p30 : lw_okq (⟨"EnclaveMonitorModel", "isOf", "(II)Z"⟩, 30) := ⟨⟨by decide +kernel, by decide +kernel⟩, List.mem_of_getElem? (i := 523) (by decide +kernel), List.mem_of_getElem? (i := 652) (by decide +kernel), List.mem_of_getElem? (i := 653) (by decide +kernel)⟩
theorem lw_p31 : lw_okq (⟨"EnclaveMonitorModel", "becomes", "(II)V"⟩, 30) := ⟨⟨by decide +kernel, by decide +kernel⟩, List.mem_of_getElem? (i := 523) (by decide +kernel), List.mem_of_getElem? (i := 656) (by decide +kernel), List.mem_of_getElem? (i := 657) (by decide +kernel)⟩
def lw_privs_2 : List (MethodName × Nat) := [(⟨"EnclaveMonitor$Runner", "store", "(II)Z"⟩, 5), (⟨"EnclaveMonitor$Runner", "forget", "([I)V"⟩, 5), (⟨"EnclaveMonitor", "whyNotEvicted", "(III)I"⟩, 11), (⟨"EnclaveMonitor", "writeBlob", "(LEnclaveMonitor$Page;J)V"⟩, 11), (⟨"EnclaveMonitor$Sealer", "makeBlock", "(III)V"⟩, 6), (⟨"EnclaveMonitor$Sealer", "mixQuarter", "(IIII)V"⟩, 6), (⟨"EnclaveMonitor$Sealer", "beginWithMark", "(I)V"⟩, 6), (⟨"EnclaveMonitor", "whyNotReloaded", "(IIII)I"⟩, 11), (⟨"EnclaveMonitor", "isTagged", "()Z"⟩, 11), (⟨"EnclaveMonitor", "readBlob", "(LEnclaveMonitor$Page;I)V"⟩, 11), (⟨"EnclaveMonitor", "pagesOfType", "(I)I"⟩, 11), (⟨"java/lang/Throwable", "fillInStackTrace", "(I)Ljava/lang/Throwable;"⟩, 6), (⟨"EnclaveMonitorModel", "digest", "(I)V"⟩, 30), (⟨"EnclaveMonitorModel", "block", "(I)V"⟩, 30), (⟨"EnclaveMonitorModel", "isOf", "(II)Z"⟩, 30), (⟨"EnclaveMonitorModel", "becomes", "(II)V"⟩, 30)]
theorem lw_r2 : ∀ q ∈ lw_privs_2, lw_okq q := List.forall_mem_cons.mpr ⟨lw_p16, List.forall_mem_cons.mpr ⟨lw_p17, List.forall_mem_cons.mpr ⟨lw_p18, List.forall_mem_cons.mpr ⟨lw_p19, List.forall_mem_cons.mpr ⟨lw_p20, List.forall_mem_cons.mpr ⟨lw_p21, List.forall_mem_cons.mpr ⟨lw_p22, List.forall_mem_cons.mpr ⟨lw_p23, List.forall_mem_cons.mpr ⟨lw_p24, List.forall_mem_cons.mpr ⟨lw_p25, List.forall_mem_cons.mpr ⟨lw_p26, List.forall_mem_cons.mpr ⟨lw_p27, List.forall_mem_cons.mpr ⟨lw_p28, List.forall_mem_cons.mpr ⟨lw_p29, List.forall_mem_cons.mpr ⟨lw_p30, List.forall_mem_cons.mpr ⟨lw_p31, fun _ h => absurd h List.not_mem_nil⟩⟩⟩⟩⟩⟩⟩⟩⟩⟩⟩⟩⟩⟩⟩⟩
theorem lw_p32 : lw_okq (⟨"EnclaveMonitorModel", "measured", "(III)V"⟩, 30) := ⟨⟨by decide +kernel, by decide +kernel⟩, List.mem_of_getElem? (i := 523) (by decide +kernel), List.mem_of_getElem? (i := 664) (by decide +kernel), List.mem_of_getElem? (i := 665) (by decide +kernel)⟩
theorem lw_p33 : lw_okq (⟨"EnclaveMonitorModel", "at", "(II)I"⟩, 30) := ⟨⟨by decide +kernel, by decide +kernel⟩, List.mem_of_getElem? (i := 523) (by decide +kernel), List.mem_of_getElem? (i := 672) (by decide +kernel), List.mem_of_getElem? (i := 673) (by decide +kernel)⟩
theorem lw_p34 : lw_okq (⟨"EnclaveMonitorModel", "owned", "(I)I"⟩, 30) := ⟨⟨by decide +kernel, by decide +kernel⟩, List.mem_of_getElem? (i := 523) (by decide +kernel), List.mem_of_getElem? (i := 692) (by decide +kernel), List.mem_of_getElem? (i := 693) (by decide +kernel)⟩
theorem lw_p35 : lw_okq (⟨"EnclaveMonitorModel", "run", "(II)I"⟩, 30) := ⟨⟨by decide +kernel, by decide +kernel⟩, List.mem_of_getElem? (i := 523) (by decide +kernel), List.mem_of_getElem? (i := 700) (by decide +kernel), List.mem_of_getElem? (i := 701) (by decide +kernel)⟩
theorem lw_p36 : lw_okq (⟨"EnclaveMonitorModel", "step", "(I)V"⟩, 30) := ⟨⟨by decide +kernel, by decide +kernel⟩, List.mem_of_getElem? (i := 523) (by decide +kernel), List.mem_of_getElem? (i := 704) (by decide +kernel), List.mem_of_getElem? (i := 705) (by decide +kernel)⟩
theorem lw_p37 : lw_okq (⟨"EnclaveMonitorModel", "reach", "(III)I"⟩, 30) := ⟨⟨by decide +kernel, by decide +kernel⟩, List.mem_of_getElem? (i := 523) (by decide +kernel), List.mem_of_getElem? (i := 708) (by decide +kernel), List.mem_of_getElem? (i := 709) (by decide +kernel)⟩
theorem lw_p38 : lw_okq (⟨"EnclaveMonitorModel", "inSlot", "(II)J"⟩, 30) := ⟨⟨by decide +kernel, by decide +kernel⟩, List.mem_of_getElem? (i := 523) (by decide +kernel), List.mem_of_getElem? (i := 724) (by decide +kernel), List.mem_of_getElem? (i := 725) (by decide +kernel)⟩
theorem lw_p39 : lw_okq (⟨"EnclaveMonitorModel", "seal", "([II[II)V"⟩, 30) := ⟨⟨by decide +kernel, by decide +kernel⟩, List.mem_of_getElem? (i := 523) (by decide +kernel), List.mem_of_getElem? (i := 729) (by decide +kernel), List.mem_of_getElem? (i := 730) (by decide +kernel)⟩
theorem lw_p40 : lw_okq (⟨"EnclaveMonitorModel", "stream", "(III)V"⟩, 30) := ⟨⟨by decide +kernel, by decide +kernel⟩, List.mem_of_getElem? (i := 523) (by decide +kernel), List.mem_of_getElem? (i := 733) (by decide +kernel), List.mem_of_getElem? (i := 734) (by decide +kernel)⟩
theorem lw_p41 : lw_okq (⟨"EnclaveMonitorModel", "quarter", "(IIII)V"⟩, 30) := ⟨⟨by decide +kernel, by decide +kernel⟩, List.mem_of_getElem? (i := 523) (by decide +kernel), List.mem_of_getElem? (i := 741) (by decide +kernel), List.mem_of_getElem? (i := 742) (by decide +kernel)⟩
theorem lw_p42 : lw_okq (⟨"EnclaveMonitorModel", "tag", "()V"⟩, 30) := ⟨⟨by decide +kernel, by decide +kernel⟩, List.mem_of_getElem? (i := 523) (by decide +kernel), List.mem_of_getElem? (i := 745) (by decide +kernel), List.mem_of_getElem? (i := 746) (by decide +kernel)⟩
theorem lw_p43 : lw_okq (⟨"EnclaveMonitorModel", "setSlot", "(IIJ)V"⟩, 30) := ⟨⟨by decide +kernel, by decide +kernel⟩, List.mem_of_getElem? (i := 523) (by decide +kernel), List.mem_of_getElem? (i := 751) (by decide +kernel), List.mem_of_getElem? (i := 752) (by decide +kernel)⟩
def lw_privs_3 : List (MethodName × Nat) := [(⟨"EnclaveMonitorModel", "measured", "(III)V"⟩, 30), (⟨"EnclaveMonitorModel", "at", "(II)I"⟩, 30), (⟨"EnclaveMonitorModel", "owned", "(I)I"⟩, 30), (⟨"EnclaveMonitorModel", "run", "(II)I"⟩, 30), (⟨"EnclaveMonitorModel", "step", "(I)V"⟩, 30), (⟨"EnclaveMonitorModel", "reach", "(III)I"⟩, 30), (⟨"EnclaveMonitorModel", "inSlot", "(II)J"⟩, 30), (⟨"EnclaveMonitorModel", "seal", "([II[II)V"⟩, 30), (⟨"EnclaveMonitorModel", "stream", "(III)V"⟩, 30), (⟨"EnclaveMonitorModel", "quarter", "(IIII)V"⟩, 30), (⟨"EnclaveMonitorModel", "tag", "()V"⟩, 30), (⟨"EnclaveMonitorModel", "setSlot", "(IIJ)V"⟩, 30)]
theorem lw_r3 : ∀ q ∈ lw_privs_3, lw_okq q := List.forall_mem_cons.mpr ⟨lw_p32, List.forall_mem_cons.mpr ⟨lw_p33, List.forall_mem_cons.mpr ⟨lw_p34, List.forall_mem_cons.mpr ⟨lw_p35, List.forall_mem_cons.mpr ⟨lw_p36, List.forall_mem_cons.mpr ⟨lw_p37, List.forall_mem_cons.mpr ⟨lw_p38, List.forall_mem_cons.mpr ⟨lw_p39, List.forall_mem_cons.mpr ⟨lw_p40, List.forall_mem_cons.mpr ⟨lw_p41, List.forall_mem_cons.mpr ⟨lw_p42, List.forall_mem_cons.mpr ⟨lw_p43, fun _ h => absurd h List.not_mem_nil⟩⟩⟩⟩⟩⟩⟩⟩⟩⟩⟩⟩
def lw_privs : List (MethodName × Nat) := lw_privs_1 ++ (lw_privs_2 ++ (lw_privs_3))
def lw_tbl : List Cond := k2_sels lw_privs ++ tables_1
theorem lw_privs_ok : ∀ q ∈ lw_privs, lw_okq q := by
  show ∀ q ∈ lw_privs_1 ++ (lw_privs_2 ++ (lw_privs_3)), lw_okq q
  exact List.forall_mem_append.mpr ⟨lw_r1, List.forall_mem_append.mpr ⟨lw_r2, lw_r3⟩⟩
def RX0 : String := "EnclaveMonitor$Hash"
def TX0 : u_T := fun k => match k with
  | 0 => ("EnclaveMonitor$Hash", "message", "[I", true)
  | 1 => ("EnclaveMonitor$Hash", "schedule", "[I", true)
  | 2 => ("EnclaveMonitor$Hash", "state", "[I", true)
  | _ => ("EnclaveMonitor$Hash", "length", "I", false)
def tyX0 : Nat → FieldType := fun k => match k with
  | 0 => .array .int
  | 1 => .array .int
  | 2 => .array .int
  | _ => .int
abbrev wsX00 : List Cond := u_ws RX0 TX0 4
theorem nmX0 : ∀ a, a < 4 → ∀ b, b < 4 → a ≠ b → (TX0 a).2.1 ≠ (TX0 b).2.1 := by decide +kernel
theorem tyX0_ok : ∀ k, k < 4 → parseFieldDescriptor (TX0 k).2.2.1 = some (tyX0 k) := by decide +kernel
abbrev cX0_init : ByteArray := prog_2_method_1_code
def yX0_init : MethodName := ⟨RX0, "<init>", "()V"⟩
abbrev cX0_begin : ByteArray := prog_2_method_2_code
def yX0_begin : MethodName := ⟨RX0, "begin", "()V"⟩
abbrev cX0_add : ByteArray := prog_2_method_3_code
def yX0_add : MethodName := ⟨RX0, "add", "(I)V"⟩
abbrev cX0_addAll : ByteArray := prog_2_method_4_code
def yX0_addAll : MethodName := ⟨RX0, "addAll", "([II)V"⟩
abbrev cX0_finish : ByteArray := prog_2_method_5_code
def yX0_finish : MethodName := ⟨RX0, "finish", "([II)V"⟩
abbrev cX0_padMessage : ByteArray := prog_2_method_6_code
def yX0_padMessage : MethodName := ⟨RX0, "padMessage", "()I"⟩
abbrev cX0_fillSchedule : ByteArray := prog_2_method_7_code
def yX0_fillSchedule : MethodName := ⟨RX0, "fillSchedule", "(I)V"⟩
abbrev cX0_compress : ByteArray := prog_2_method_8_code
def yX0_compress : MethodName := ⟨RX0, "compress", "()V"⟩
abbrev cX0_turnRight : ByteArray := prog_2_method_9_code
def yX0_turnRight : MethodName := ⟨RX0, "turnRight", "(II)I"⟩
def RX1 : String := "EnclaveMonitor$Page"
def TX1 : u_T := fun k => match k with
  | 0 => ("EnclaveMonitor$Page", "words", "[I", true)
  | 1 => ("EnclaveMonitor$Page", "measured", "[I", true)
  | 2 => ("EnclaveMonitor$Page", "type", "I", false)
  | 3 => ("EnclaveMonitor$Page", "owner", "I", false)
  | 4 => ("EnclaveMonitor$Page", "address", "I", false)
  | 5 => ("EnclaveMonitor$Page", "rights", "I", false)
  | 6 => ("EnclaveMonitor$Page", "ident", "I", false)
  | _ => ("EnclaveMonitor$Page", "state", "I", false)
def tyX1 : Nat → FieldType := fun k => match k with
  | 0 => .array .int
  | 1 => .array .int
  | 2 => .int
  | 3 => .int
  | 4 => .int
  | 5 => .int
  | 6 => .int
  | _ => .int
abbrev wsX10 : List Cond := u_ws RX1 TX1 8
theorem nmX1 : ∀ a, a < 8 → ∀ b, b < 8 → a ≠ b → (TX1 a).2.1 ≠ (TX1 b).2.1 := by decide +kernel
theorem tyX1_ok : ∀ k, k < 8 → parseFieldDescriptor (TX1 k).2.2.1 = some (tyX1 k) := by decide +kernel
abbrev cX1_init : ByteArray := prog_3_method_1_code
def yX1_init : MethodName := ⟨RX1, "<init>", "()V"⟩
abbrev cX1_own : ByteArray := prog_3_method_2_code
def yX1_own : MethodName := ⟨RX1, "own", "(II)V"⟩
abbrev cX1_clear : ByteArray := prog_3_method_3_code
def yX1_clear : MethodName := ⟨RX1, "clear", "()V"⟩
abbrev cX1_isSaved : ByteArray := prog_3_method_4_code
def yX1_isSaved : MethodName := ⟨RX1, "isSaved", "()Z"⟩
abbrev cX1_isDataOf : ByteArray := prog_3_method_5_code
def yX1_isDataOf : MethodName := ⟨RX1, "isDataOf", "(I)Z"⟩
abbrev cX1_numberIn : ByteArray := prog_3_method_6_code
def yX1_numberIn : MethodName := ⟨RX1, "numberIn", "(I)J"⟩
abbrev cX1_setNumber : ByteArray := prog_3_method_7_code
def yX1_setNumber : MethodName := ⟨RX1, "setNumber", "(IJ)V"⟩
abbrev cX1_join : ByteArray := prog_3_method_8_code
def yX1_join : MethodName := ⟨RX1, "join", "(II)J"⟩
def RX2 : String := "EnclaveMonitor$Runner"
def TX2 : u_T := fun k => match k with
  | 0 => ("EnclaveMonitor$Runner", "space", "[LEnclaveMonitor$Page;", true)
  | 1 => ("EnclaveMonitor$Runner", "outcome", "I", false)
  | 2 => ("EnclaveMonitor$Runner", "result", "I", false)
  | 3 => ("EnclaveMonitor$Runner", "faulty", "I", false)
  | _ => ("EnclaveMonitor$Runner", "made", "I", false)
def tyX2 : Nat → FieldType := fun k => match k with
  | 0 => .array (.object "EnclaveMonitor$Page")
  | 1 => .int
  | 2 => .int
  | 3 => .int
  | _ => .int
abbrev wsX20 : List Cond := u_ws RX2 TX2 5
theorem nmX2 : ∀ a, a < 5 → ∀ b, b < 5 → a ≠ b → (TX2 a).2.1 ≠ (TX2 b).2.1 := by decide +kernel
theorem tyX2_ok : ∀ k, k < 5 → parseFieldDescriptor (TX2 k).2.2.1 = some (tyX2 k) := by decide +kernel
abbrev cX2_init : ByteArray := prog_4_method_1_code
def yX2_init : MethodName := ⟨RX2, "<init>", "()V"⟩
abbrev cX2_mapSpace : ByteArray := prog_4_method_2_code
def yX2_mapSpace : MethodName := ⟨RX2, "mapSpace", "([LEnclaveMonitor$Page;I)V"⟩
abbrev cX2_go : ByteArray := prog_4_method_3_code
def yX2_go : MethodName := ⟨RX2, "go", "([I[II)V"⟩
abbrev cX2_forget : ByteArray := prog_4_method_4_code
def yX2_forget : MethodName := ⟨RX2, "forget", "([I)V"⟩
abbrev cX2_step : ByteArray := prog_4_method_5_code
def yX2_step : MethodName := ⟨RX2, "step", "([I[I)I"⟩
abbrev cX2_register : ByteArray := prog_4_method_6_code
def yX2_register : MethodName := ⟨RX2, "register", "(I)I"⟩
abbrev cX2_fetch : ByteArray := prog_4_method_7_code
def yX2_fetch : MethodName := ⟨RX2, "fetch", "([III)Z"⟩
abbrev cX2_store : ByteArray := prog_4_method_8_code
def yX2_store : MethodName := ⟨RX2, "store", "(II)Z"⟩
abbrev cX2_reach : ByteArray := prog_4_method_9_code
def yX2_reach : MethodName := ⟨RX2, "reach", "(II)LEnclaveMonitor$Page;"⟩
def RX3 : String := "EnclaveMonitor$Sealer"
def TX3 : u_T := fun k => match k with
  | 0 => ("EnclaveMonitor$Sealer", "hash", "LEnclaveMonitor$Hash;", true)
  | 1 => ("EnclaveMonitor$Sealer", "key", "[I", true)
  | 2 => ("EnclaveMonitor$Sealer", "mark", "[I", true)
  | 3 => ("EnclaveMonitor$Sealer", "inner", "[I", true)
  | 4 => ("EnclaveMonitor$Sealer", "start", "[I", true)
  | _ => ("EnclaveMonitor$Sealer", "block", "[I", true)
def tyX3 : Nat → FieldType := fun k => match k with
  | 0 => .object "EnclaveMonitor$Hash"
  | 1 => .array .int
  | 2 => .array .int
  | 3 => .array .int
  | 4 => .array .int
  | _ => .array .int
abbrev wsX30 : List Cond := u_ws RX3 TX3 6
theorem nmX3 : ∀ a, a < 6 → ∀ b, b < 6 → a ≠ b → (TX3 a).2.1 ≠ (TX3 b).2.1 := by decide +kernel
theorem tyX3_ok : ∀ k, k < 6 → parseFieldDescriptor (TX3 k).2.2.1 = some (tyX3 k) := by decide +kernel
abbrev cX3_init : ByteArray := prog_5_method_1_code
def yX3_init : MethodName := ⟨RX3, "<init>", "(J)V"⟩
abbrev cX3_derive : ByteArray := prog_5_method_2_code
def yX3_derive : MethodName := ⟨RX3, "derive", "(JI[I)V"⟩
abbrev cX3_sign : ByteArray := prog_5_method_3_code
def yX3_sign : MethodName := ⟨RX3, "sign", "([II[II)V"⟩
abbrev cX3_beginWithMark : ByteArray := prog_5_method_4_code
def yX3_beginWithMark : MethodName := ⟨RX3, "beginWithMark", "(I)V"⟩
abbrev cX3_cover : ByteArray := prog_5_method_5_code
def yX3_cover : MethodName := ⟨RX3, "cover", "([IIII)V"⟩
abbrev cX3_makeBlock : ByteArray := prog_5_method_6_code
def yX3_makeBlock : MethodName := ⟨RX3, "makeBlock", "(III)V"⟩
abbrev cX3_mixQuarter : ByteArray := prog_5_method_7_code
def yX3_mixQuarter : MethodName := ⟨RX3, "mixQuarter", "(IIII)V"⟩
abbrev cX3_turnLeft : ByteArray := prog_5_method_8_code
def yX3_turnLeft : MethodName := ⟨RX3, "turnLeft", "(II)I"⟩
def RX4 : String := "EnclaveMonitor"
def TX4 : u_T := fun k => match k with
  | 0 => ("EnclaveMonitor", "pages", "[LEnclaveMonitor$Page;", true)
  | 1 => ("EnclaveMonitor", "shared", "[I", true)
  | 2 => ("EnclaveMonitor", "dueTag", "[I", true)
  | 3 => ("EnclaveMonitor", "hash", "LEnclaveMonitor$Hash;", true)
  | 4 => ("EnclaveMonitor", "sealer", "LEnclaveMonitor$Sealer;", true)
  | 5 => ("EnclaveMonitor", "runner", "LEnclaveMonitor$Runner;", true)
  | 6 => ("EnclaveMonitor", "lettingGoes", "J", false)
  | 7 => ("EnclaveMonitor", "takingsBack", "I", false)
  | 8 => ("EnclaveMonitor", "wrongTags", "I", false)
  | 9 => ("EnclaveMonitor", "wrongVersions", "I", false)
  | _ => ("EnclaveMonitor", "enclavesCreated", "I", false)
def tyX4 : Nat → FieldType := fun k => match k with
  | 0 => .array (.object "EnclaveMonitor$Page")
  | 1 => .array .int
  | 2 => .array .int
  | 3 => .object "EnclaveMonitor$Hash"
  | 4 => .object "EnclaveMonitor$Sealer"
  | 5 => .object "EnclaveMonitor$Runner"
  | 6 => .long
  | 7 => .int
  | 8 => .int
  | 9 => .int
  | _ => .int
abbrev wsX40 : List Cond := u_ws RX4 TX4 11
theorem nmX4 : ∀ a, a < 11 → ∀ b, b < 11 → a ≠ b → (TX4 a).2.1 ≠ (TX4 b).2.1 := by decide +kernel
theorem tyX4_ok : ∀ k, k < 11 → parseFieldDescriptor (TX4 k).2.2.1 = some (tyX4 k) := by decide +kernel
abbrev cX4_init : ByteArray := prog_1_method_1_code
def yX4_init : MethodName := ⟨RX4, "<init>", "(IJ)V"⟩
abbrev cX4_poke : ByteArray := prog_1_method_2_code
def yX4_poke : MethodName := ⟨RX4, "poke", "(II)V"⟩
abbrev cX4_buffer : ByteArray := prog_1_method_3_code
def yX4_buffer : MethodName := ⟨RX4, "buffer", "(I)I"⟩
abbrev cX4_create : ByteArray := prog_1_method_4_code
def yX4_create : MethodName := ⟨RX4, "create", "(I)I"⟩
abbrev cX4_thread : ByteArray := prog_1_method_5_code
def yX4_thread : MethodName := ⟨RX4, "thread", "(III)I"⟩
abbrev cX4_data : ByteArray := prog_1_method_6_code
def yX4_data : MethodName := ⟨RX4, "data", "(IIII)I"⟩
abbrev cX4_versions : ByteArray := prog_1_method_7_code
def yX4_versions : MethodName := ⟨RX4, "versions", "(I)I"⟩
abbrev cX4_finalise : ByteArray := prog_1_method_8_code
def yX4_finalise : MethodName := ⟨RX4, "finalise", "(I)I"⟩
abbrev cX4_stop : ByteArray := prog_1_method_9_code
def yX4_stop : MethodName := ⟨RX4, "stop", "(I)I"⟩
abbrev cX4_remove : ByteArray := prog_1_method_10_code
def yX4_remove : MethodName := ⟨RX4, "remove", "(I)I"⟩
abbrev cX4_enter : ByteArray := prog_1_method_11_code
def yX4_enter : MethodName := ⟨RX4, "enter", "(IIII)I"⟩
abbrev cX4_resume : ByteArray := prog_1_method_12_code
def yX4_resume : MethodName := ⟨RX4, "resume", "(II)I"⟩
abbrev cX4_told : ByteArray := prog_1_method_13_code
def yX4_told : MethodName := ⟨RX4, "told", "(I)I"⟩
abbrev cX4_evict : ByteArray := prog_1_method_14_code
def yX4_evict : MethodName := ⟨RX4, "evict", "(III)I"⟩
abbrev cX4_reload : ByteArray := prog_1_method_15_code
def yX4_reload : MethodName := ⟨RX4, "reload", "(IIII)I"⟩
abbrev cX4_page : ByteArray := prog_1_method_16_code
def yX4_page : MethodName := ⟨RX4, "page", "(II)I"⟩
abbrev cX4_measure : ByteArray := prog_1_method_17_code
def yX4_measure : MethodName := ⟨RX4, "measure", "(II)I"⟩
abbrev cX4_slot : ByteArray := prog_1_method_18_code
def yX4_slot : MethodName := ⟨RX4, "slot", "(II)J"⟩
abbrev cX4_count : ByteArray := prog_1_method_19_code
def yX4_count : MethodName := ⟨RX4, "count", "(I)I"⟩
abbrev cX4_isWithin : ByteArray := prog_1_method_20_code
def yX4_isWithin : MethodName := ⟨RX4, "isWithin", "(II)Z"⟩
abbrev cX4_isOfType : ByteArray := prog_1_method_21_code
def yX4_isOfType : MethodName := ⟨RX4, "isOfType", "(II)Z"⟩
abbrev cX4_stateOf : ByteArray := prog_1_method_22_code
def yX4_stateOf : MethodName := ⟨RX4, "stateOf", "(I)I"⟩
abbrev cX4_pagesOfType : ByteArray := prog_1_method_23_code
def yX4_pagesOfType : MethodName := ⟨RX4, "pagesOfType", "(I)I"⟩
abbrev cX4_ownedBy : ByteArray := prog_1_method_24_code
def yX4_ownedBy : MethodName := ⟨RX4, "ownedBy", "(I)I"⟩
abbrev cX4_hasAddress : ByteArray := prog_1_method_25_code
def yX4_hasAddress : MethodName := ⟨RX4, "hasAddress", "(II)Z"⟩
abbrev cX4_whyNotAdded : ByteArray := prog_1_method_26_code
def yX4_whyNotAdded : MethodName := ⟨RX4, "whyNotAdded", "(II)I"⟩
abbrev cX4_extendMeasure : ByteArray := prog_1_method_27_code
def yX4_extendMeasure : MethodName := ⟨RX4, "extendMeasure", "(LEnclaveMonitor$Page;LEnclaveMonitor$Page;I)V"⟩
abbrev cX4_isRemovable : ByteArray := prog_1_method_28_code
def yX4_isRemovable : MethodName := ⟨RX4, "isRemovable", "(I)Z"⟩
abbrev cX4_whyNotRun : ByteArray := prog_1_method_29_code
def yX4_whyNotRun : MethodName := ⟨RX4, "whyNotRun", "(IZI)I"⟩
abbrev cX4_runThread : ByteArray := prog_1_method_30_code
def yX4_runThread : MethodName := ⟨RX4, "runThread", "(II)I"⟩
abbrev cX4_whyNotEvicted : ByteArray := prog_1_method_31_code
def yX4_whyNotEvicted : MethodName := ⟨RX4, "whyNotEvicted", "(III)I"⟩
abbrev cX4_whyNotReloaded : ByteArray := prog_1_method_32_code
def yX4_whyNotReloaded : MethodName := ⟨RX4, "whyNotReloaded", "(IIII)I"⟩
abbrev cX4_isTagged : ByteArray := prog_1_method_33_code
def yX4_isTagged : MethodName := ⟨RX4, "isTagged", "()Z"⟩
abbrev cX4_writeBlob : ByteArray := prog_1_method_34_code
def yX4_writeBlob : MethodName := ⟨RX4, "writeBlob", "(LEnclaveMonitor$Page;J)V"⟩
abbrev cX4_readBlob : ByteArray := prog_1_method_35_code
def yX4_readBlob : MethodName := ⟨RX4, "readBlob", "(LEnclaveMonitor$Page;I)V"⟩
def RX5 : String := "EnclaveMonitorModel"
def TX5 : u_T := fun k => match k with
  | 0 => ("EnclaveMonitorModel", "thrown", "I", false)
  | 1 => ("EnclaveMonitorModel", "many", "I", true)
  | 2 => ("EnclaveMonitorModel", "type", "[I", true)
  | 3 => ("EnclaveMonitorModel", "owner", "[I", true)
  | 4 => ("EnclaveMonitorModel", "address", "[I", true)
  | 5 => ("EnclaveMonitorModel", "rights", "[I", true)
  | 6 => ("EnclaveMonitorModel", "ident", "[I", true)
  | 7 => ("EnclaveMonitorModel", "state", "[I", true)
  | 8 => ("EnclaveMonitorModel", "words", "[I", true)
  | 9 => ("EnclaveMonitorModel", "measures", "[I", true)
  | 10 => ("EnclaveMonitorModel", "buffer", "[I", true)
  | 11 => ("EnclaveMonitorModel", "key", "[I", true)
  | 12 => ("EnclaveMonitorModel", "mark", "[I", true)
  | 13 => ("EnclaveMonitorModel", "idents", "I", false)
  | 14 => ("EnclaveMonitorModel", "tags", "I", false)
  | 15 => ("EnclaveMonitorModel", "wrongs", "I", false)
  | 16 => ("EnclaveMonitorModel", "taken", "I", false)
  | 17 => ("EnclaveMonitorModel", "letGo", "J", false)
  | 18 => ("EnclaveMonitorModel", "message", "[I", true)
  | 19 => ("EnclaveMonitorModel", "hash", "[I", true)
  | 20 => ("EnclaveMonitorModel", "wide", "[I", true)
  | 21 => ("EnclaveMonitorModel", "turn", "[I", true)
  | 22 => ("EnclaveMonitorModel", "start", "[I", true)
  | 23 => ("EnclaveMonitorModel", "stream", "[I", true)
  | 24 => ("EnclaveMonitorModel", "\x72", "[I", true)
  | 25 => ("EnclaveMonitorModel", "pc", "I", false)
  | 26 => ("EnclaveMonitorModel", "made", "I", false)
  | 27 => ("EnclaveMonitorModel", "ended", "I", false)
  | 28 => ("EnclaveMonitorModel", "gave", "I", false)
  | _ => ("EnclaveMonitorModel", "faulted", "I", false)
def tyX5 : Nat → FieldType := fun k => match k with
  | 0 => .int
  | 1 => .int
  | 2 => .array .int
  | 3 => .array .int
  | 4 => .array .int
  | 5 => .array .int
  | 6 => .array .int
  | 7 => .array .int
  | 8 => .array .int
  | 9 => .array .int
  | 10 => .array .int
  | 11 => .array .int
  | 12 => .array .int
  | 13 => .int
  | 14 => .int
  | 15 => .int
  | 16 => .int
  | 17 => .long
  | 18 => .array .int
  | 19 => .array .int
  | 20 => .array .int
  | 21 => .array .int
  | 22 => .array .int
  | 23 => .array .int
  | 24 => .array .int
  | 25 => .int
  | 26 => .int
  | 27 => .int
  | 28 => .int
  | _ => .int
abbrev wsX50 : List Cond := u_ws RX5 TX5 30
theorem nmX5 : ∀ a, a < 30 → ∀ b, b < 30 → a ≠ b → (TX5 a).2.1 ≠ (TX5 b).2.1 := by decide +kernel
theorem tyX5_ok : ∀ k, k < 30 → parseFieldDescriptor (TX5 k).2.2.1 = some (tyX5 k) := by decide +kernel
abbrev cX5_init : ByteArray := prog_7_method_1_code
def yX5_init : MethodName := ⟨RX5, "<init>", "(IJ)V"⟩
abbrev cX5_thrown : ByteArray := prog_7_method_2_code
def yX5_thrown : MethodName := ⟨RX5, "thrown", "()I"⟩
abbrev cX5_right : ByteArray := prog_7_method_3_code
def yX5_right : MethodName := ⟨RX5, "right", "(II)I"⟩
abbrev cX5_digest : ByteArray := prog_7_method_4_code
def yX5_digest : MethodName := ⟨RX5, "digest", "(I)V"⟩
abbrev cX5_block : ByteArray := prog_7_method_5_code
def yX5_block : MethodName := ⟨RX5, "block", "(I)V"⟩
abbrev cX5_tag : ByteArray := prog_7_method_6_code
def yX5_tag : MethodName := ⟨RX5, "tag", "()V"⟩
abbrev cX5_quarter : ByteArray := prog_7_method_7_code
def yX5_quarter : MethodName := ⟨RX5, "quarter", "(IIII)V"⟩
abbrev cX5_stream : ByteArray := prog_7_method_8_code
def yX5_stream : MethodName := ⟨RX5, "stream", "(III)V"⟩
abbrev cX5_seal : ByteArray := prog_7_method_9_code
def yX5_seal : MethodName := ⟨RX5, "seal", "([II[II)V"⟩
abbrev cX5_isOf : ByteArray := prog_7_method_10_code
def yX5_isOf : MethodName := ⟨RX5, "isOf", "(II)Z"⟩
abbrev cX5_owned : ByteArray := prog_7_method_11_code
def yX5_owned : MethodName := ⟨RX5, "owned", "(I)I"⟩
abbrev cX5_becomes : ByteArray := prog_7_method_12_code
def yX5_becomes : MethodName := ⟨RX5, "becomes", "(II)V"⟩
abbrev cX5_poke : ByteArray := prog_7_method_13_code
def yX5_poke : MethodName := ⟨RX5, "poke", "(II)V"⟩
abbrev cX5_buffer : ByteArray := prog_7_method_14_code
def yX5_buffer : MethodName := ⟨RX5, "buffer", "(I)I"⟩
abbrev cX5_create : ByteArray := prog_7_method_15_code
def yX5_create : MethodName := ⟨RX5, "create", "(I)I"⟩
abbrev cX5_measured : ByteArray := prog_7_method_16_code
def yX5_measured : MethodName := ⟨RX5, "measured", "(III)V"⟩
abbrev cX5_thread : ByteArray := prog_7_method_17_code
def yX5_thread : MethodName := ⟨RX5, "thread", "(III)I"⟩
abbrev cX5_at : ByteArray := prog_7_method_18_code
def yX5_at : MethodName := ⟨RX5, "at", "(II)I"⟩
abbrev cX5_data : ByteArray := prog_7_method_19_code
def yX5_data : MethodName := ⟨RX5, "data", "(IIII)I"⟩
abbrev cX5_versions : ByteArray := prog_7_method_20_code
def yX5_versions : MethodName := ⟨RX5, "versions", "(I)I"⟩
abbrev cX5_finalise : ByteArray := prog_7_method_21_code
def yX5_finalise : MethodName := ⟨RX5, "finalise", "(I)I"⟩
abbrev cX5_stop : ByteArray := prog_7_method_22_code
def yX5_stop : MethodName := ⟨RX5, "stop", "(I)I"⟩
abbrev cX5_remove : ByteArray := prog_7_method_23_code
def yX5_remove : MethodName := ⟨RX5, "remove", "(I)I"⟩
abbrev cX5_enter : ByteArray := prog_7_method_24_code
def yX5_enter : MethodName := ⟨RX5, "enter", "(IIII)I"⟩
abbrev cX5_resume : ByteArray := prog_7_method_25_code
def yX5_resume : MethodName := ⟨RX5, "resume", "(II)I"⟩
abbrev cX5_run : ByteArray := prog_7_method_26_code
def yX5_run : MethodName := ⟨RX5, "run", "(II)I"⟩
abbrev cX5_reach : ByteArray := prog_7_method_27_code
def yX5_reach : MethodName := ⟨RX5, "reach", "(III)I"⟩
abbrev cX5_step : ByteArray := prog_7_method_28_code
def yX5_step : MethodName := ⟨RX5, "step", "(I)V"⟩
abbrev cX5_told : ByteArray := prog_7_method_29_code
def yX5_told : MethodName := ⟨RX5, "told", "(I)I"⟩
abbrev cX5_inSlot : ByteArray := prog_7_method_30_code
def yX5_inSlot : MethodName := ⟨RX5, "inSlot", "(II)J"⟩
abbrev cX5_setSlot : ByteArray := prog_7_method_31_code
def yX5_setSlot : MethodName := ⟨RX5, "setSlot", "(IIJ)V"⟩
abbrev cX5_evict : ByteArray := prog_7_method_32_code
def yX5_evict : MethodName := ⟨RX5, "evict", "(III)I"⟩
abbrev cX5_reload : ByteArray := prog_7_method_33_code
def yX5_reload : MethodName := ⟨RX5, "reload", "(IIII)I"⟩
abbrev cX5_page : ByteArray := prog_7_method_34_code
def yX5_page : MethodName := ⟨RX5, "page", "(II)I"⟩
abbrev cX5_measure : ByteArray := prog_7_method_35_code
def yX5_measure : MethodName := ⟨RX5, "measure", "(II)I"⟩
abbrev cX5_slot : ByteArray := prog_7_method_36_code
def yX5_slot : MethodName := ⟨RX5, "slot", "(II)J"⟩
abbrev cX5_count : ByteArray := prog_7_method_37_code
def yX5_count : MethodName := ⟨RX5, "count", "(I)I"⟩
def RL : String := "EnclaveMonitorLaw"
abbrev cL_cell : ByteArray := method_2_code
def yL_cell : MethodName := ⟨RL, "cell", "([II)I"⟩
abbrev cL_poke : ByteArray := method_3_code
def yL_poke : MethodName := ⟨RL, "poke", "(LEnclaveMonitor;II)I"⟩
abbrev cL_buffer : ByteArray := method_4_code
def yL_buffer : MethodName := ⟨RL, "buffer", "(LEnclaveMonitor;I[J)I"⟩
abbrev cL_law : ByteArray := code
def yL_law : MethodName := ⟨RL, "law", "([I)Z"⟩
abbrev vwCl : List vw_C := [(RX0, TX0, 4), (RX1, TX1, 8), (RX2, TX2, 5), (RX3, TX3, 6), (RX4, TX4, 11), (RX5, TX5, 30)]
end
section
/-! A PURE EVALUATOR of the bytecode that the system uses: frames of one method at a time, calls by a relation; its soundness over the machine is the next part's. -/
/-- a cell: an object (number of its sort, fields), or an array: ints, longs, references -/
abbrev e_O : Type := (Nat × List Value) ⊕ ((Nat × (Nat → Int32)) ⊕ ((Nat × (Nat → Int64)) ⊕ (Nat × (Nat → Option Nat))))
/-- a heap: cells; and, while cells may be made, the heap's size and the slots that are used -/
abbrev e_H : Type := (Nat → Option e_O) × Option (Nat × Nat)
abbrev e_L : Type := List (Option Value)
/-- an entry of a method's table: instruction, next pc, two numbers, a value, a list of targets -/
abbrev e_E : Type := Instr × Nat × Nat × Nat × Value × List Nat
/-- a method: own sort's name, name, bytes, locals, answer's type; its table -/
abbrev e_M : Type := (String × MethodName × ByteArray × Nat × Option FieldType) × List (Nat × e_E)
abbrev e_C : Type := Nat × e_L × List Value × e_H
abbrev e_R : Type := e_C ⊕ (Option Value ⊕ (Nat × List Value × Nat × e_L × List Value))
def ev_fnd : List (Nat × e_E) → Nat → Option e_E
  | [], _ => none
  | e :: r, pc => cond (Nat.beq e.1 pc) (some e.2) (ev_fnd r pc)
def ev_up (h : e_H) (a : Nat) (o : e_O) : e_H := (fun b => cond (Nat.beq b a) (some o) (h.1 b), h.2)
def ev_kd : Value → Nat
  | .int _ => 0
  | .long _ => 1
  | .null => 2
  | .ref _ => 2
  | _ => 3
def ev_ld (lo : e_L) (i k : Nat) : Option Value := match lo[i]? with
  | some (some w) => cond (Nat.beq (ev_kd w) k) (some w) none
  | _ => none
/-- the place ahead holds nothing of two places -/
def ev_nc1 (lo : e_L) (j : Nat) : Bool := match lo[j]? with
  | some (some w) => Nat.beq w.category 1
  | _ => true
def ev_nc (lo : e_L) : Nat → Bool
  | 0 => true
  | j + 1 => ev_nc1 lo j
def ev_go (nx : Nat) (lo : e_L) (sk : List Value) (h : e_H) : Option e_R := some (.inl (nx, lo, sk, h))
def ev_load (k : Nat) (nx i : Nat) (lo : e_L) (sk : List Value) (h : e_H) : Option e_R := match ev_ld lo i k with
  | some w => ev_go nx lo (w :: sk) h
  | none => none
def ev_store (k : Nat) (nx i : Nat) (lo : e_L) (sk : List Value) (h : e_H) : Option e_R := match sk with
  | w :: r => cond (Nat.beq (ev_kd w) k && (Nat.blt i lo.length && ev_nc lo i)) (ev_go nx (lo.set i (some w)) r h) none
  | _ => none
def ev_storeL (nx i : Nat) (lo : e_L) (sk : List Value) (h : e_H) : Option e_R := match sk with
  | .long x :: r => cond (Nat.blt (i + 1) lo.length && ev_nc lo i) (ev_go nx ((lo.set i (some (.long x))).set (i + 1) none) r h) none
  | _ => none
def ev_inc (nx i : Nat) (v : Value) (lo : e_L) (sk : List Value) (h : e_H) : Option e_R := match ev_ld lo i 0, v with
  | some (.int x), .int c => cond (ev_nc lo i) (ev_go nx (lo.set i (some (.int (x + c)))) sk h) none
  | _, _ => none
def ev_bin (f : Int32 → Int32 → Int32) (nx : Nat) (lo : e_L) (sk : List Value) (h : e_H) : Option e_R := match sk with
  | .int y :: .int x :: r => ev_go nx lo (.int (f x y) :: r) h
  | _ => none
def ev_un (f : Int32 → Value) (nx : Nat) (lo : e_L) (sk : List Value) (h : e_H) : Option e_R := match sk with
  | .int x :: r => ev_go nx lo (f x :: r) h
  | _ => none
def ev_binL (f : Int64 → Int64 → Value) (nx : Nat) (lo : e_L) (sk : List Value) (h : e_H) : Option e_R := match sk with
  | .long y :: .long x :: r => ev_go nx lo (f x y :: r) h
  | _ => none
def ev_shL (f : Int64 → Int32 → Int64) (nx : Nat) (lo : e_L) (sk : List Value) (h : e_H) : Option e_R := match sk with
  | .int y :: .long x :: r => ev_go nx lo (.long (f x y) :: r) h
  | _ => none
def ev_div (q : Bool) (nx : Nat) (lo : e_L) (sk : List Value) (h : e_H) : Option e_R := match sk with
  | .int y :: .int x :: r => cond (decide (y = 0)) none (ev_go nx lo (.int (cond q (x / y) (x - x / y * y)) :: r) h)
  | _ => none
def ev_cmp (c : ClassFile.Cond) (x y : Int32) : Bool := match c with
  | .eq => decide (x = y)
  | .ne => decide (x ≠ y)
  | .lt => decide (x < y)
  | .ge => decide (y ≤ x)
  | .gt => decide (y < x)
  | .le => decide (x ≤ y)
def ev_tsw (ts : List Nat) (x : Int32) : Nat := match ts with
  | [] => 0
  | df :: tg => if 0 ≤ x.toInt ∧ x.toInt < (tg.length : Int) then tg.getD x.toInt.toNat df else df
def ev_in (i : Int32) (n : Nat) : Bool := decide (¬ i < 0) && Nat.blt i.toNatClampNeg n
def ev_sum (sk : List Value) : Nat := (sk.map fun v => v.category).sum
/-- a new cell -/
def ev_new (h : e_H) (o : e_O) (n : Nat) : Option (Nat × e_H) := match h.2 with
  | some (z, u) => some (z, (fun b => cond (Nat.beq b z) (some o) (h.1 b), some (z + 1, u + n)))
  | none => none
def ev_obj (h : e_H) (a ci : Nat) : Option (List Value) := match h.1 a with
  | some (.inl (c, fs)) => cond (Nat.beq c ci) (some fs) none
  | _ => none
def ev_ia (h : e_H) (a : Nat) : Option (Nat × (Nat → Int32)) := match h.1 a with
  | some (.inr (.inl x)) => some x
  | _ => none
def ev_la (h : e_H) (a : Nat) : Option (Nat × (Nat → Int64)) := match h.1 a with
  | some (.inr (.inr (.inl x))) => some x
  | _ => none
def ev_ra (h : e_H) (a : Nat) : Option (Nat × (Nat → Option Nat)) := match h.1 a with
  | some (.inr (.inr (.inr x))) => some x
  | _ => none
def ev_len (h : e_H) (a : Nat) : Option Nat := match h.1 a with
  | some (.inr (.inl x)) => some x.1
  | some (.inr (.inr (.inl x))) => some x.1
  | some (.inr (.inr (.inr x))) => some x.1
  | _ => none
/-- the kinds of fields, and what they hold at first -/
def ev_z (n : Nat) : Value := if n = 0 then .int 0 else if n = 1 then .long 0 else .null
def ev_get (x1 x2 nx : Nat) (lo : e_L) (sk : List Value) (h : e_H) : Option e_R := match sk with
  | .ref a :: r => match ev_obj h a x1 with
    | some fs => match fs[x2]? with
      | some w => ev_go nx lo (w :: r) h
      | none => none
    | none => none
  | _ => none
def ev_put (bs : Nat) (v : Value) (x1 x2 nx : Nat) (lo : e_L) (sk : List Value) (h : e_H) : Option e_R := match sk with
  | w :: .ref a :: r => match ev_obj h a x1 with
    | some fs => cond (Nat.ble bs a && (Nat.blt x2 fs.length && Nat.beq (ev_kd w) (ev_kd v))) (ev_go nx lo r (ev_up h a (.inl (x1, fs.set x2 w)))) none
    | none => none
  | _ => none
def ev_iald (nx : Nat) (lo : e_L) (sk : List Value) (h : e_H) : Option e_R := match sk with
  | .int i :: .ref a :: r => match ev_ia h a with
    | some x => cond (ev_in i x.1) (ev_go nx lo (.int (x.2 i.toNatClampNeg) :: r) h) none
    | none => none
  | _ => none
def ev_iast (bs nx : Nat) (lo : e_L) (sk : List Value) (h : e_H) : Option e_R := match sk with
  | .int w :: .int i :: .ref a :: r => match ev_ia h a with
    | some x => cond (Nat.ble bs a && ev_in i x.1) (ev_go nx lo r (ev_up h a (.inr (.inl (x.1, upd x.2 i.toNatClampNeg w))))) none
    | none => none
  | _ => none
def ev_lald (nx : Nat) (lo : e_L) (sk : List Value) (h : e_H) : Option e_R := match sk with
  | .int i :: .ref a :: r => match ev_la h a with
    | some x => cond (ev_in i x.1) (ev_go nx lo (.long (x.2 i.toNatClampNeg) :: r) h) none
    | none => none
  | _ => none
def ev_last (bs nx : Nat) (lo : e_L) (sk : List Value) (h : e_H) : Option e_R := match sk with
  | .long w :: .int i :: .ref a :: r => match ev_la h a with
    | some x => cond (Nat.ble bs a && ev_in i x.1) (ev_go nx lo r (ev_up h a (.inr (.inr (.inl (x.1, vp_updL x.2 i.toNatClampNeg w)))))) none
    | none => none
  | _ => none
def ev_aald (nx : Nat) (lo : e_L) (sk : List Value) (h : e_H) : Option e_R := match sk with
  | .int i :: .ref a :: r => match ev_ra h a with
    | some x => cond (ev_in i x.1) (ev_go nx lo (va_rf (x.2 i.toNatClampNeg) :: r) h) none
    | none => none
  | _ => none
/-- a reference into an array: null, or an object of sort x1 -/
def ev_aast (bs x1 nx : Nat) (lo : e_L) (sk : List Value) (h : e_H) : Option e_R := match sk with
  | .null :: .int i :: .ref a :: r => match ev_ra h a with
    | some x => cond (Nat.ble bs a && ev_in i x.1) (ev_go nx lo r (ev_up h a (.inr (.inr (.inr (x.1, va_up x.2 i.toNatClampNeg none)))))) none
    | none => none
  | .ref b :: .int i :: .ref a :: r => match ev_ra h a, ev_obj h b x1 with
    | some x, some _ => cond (Nat.ble bs a && ev_in i x.1) (ev_go nx lo r (ev_up h a (.inr (.inr (.inr (x.1, va_up x.2 i.toNatClampNeg (some b))))))) none
    | _, _ => none
  | _ => none
def ev_alen (nx : Nat) (lo : e_L) (sk : List Value) (h : e_H) : Option e_R := match sk with
  | .ref a :: r => match ev_len h a with
    | some n => ev_go nx lo (.int (Int32.ofNat n) :: r) h
    | none => none
  | _ => none
def ev_newa (o : Nat → e_O) (nx : Nat) (lo : e_L) (sk : List Value) (h : e_H) : Option e_R := match sk with
  | .int n :: r => cond (decide (¬ n < 0) && Nat.ble n.toNatClampNeg 5000) (match ev_new h (o n.toNatClampNeg) n.toNatClampNeg with
    | some (z, h') => ev_go nx lo (.ref z :: r) h'
    | none => none) none
  | _ => none
def ev_cpy (bs nx : Nat) (lo : e_L) (sk : List Value) (h : e_H) : Option e_R := match sk with
  | .int n :: .int dp :: .ref a :: .int sp :: .ref a0 :: r => match ev_ia h a0, ev_ia h a with
    | some x, some y => cond (Nat.ble bs a && (Nat.ble (ev_sum r) 8 && (decide (¬ sp < 0) && (decide (¬ dp < 0) && (decide (¬ n < 0) && (Nat.ble (sp.toNatClampNeg + n.toNatClampNeg) x.1 && Nat.ble (dp.toNatClampNeg + n.toNatClampNeg) y.1))))))
        (ev_go nx lo r (ev_up h a (.inr (.inl (y.1, va_cpy x.2 y.2 sp.toNatClampNeg dp.toNatClampNeg n.toNatClampNeg))))) none
    | _, _ => none
  | _ => none
/-- a call of the method x1 with x2 arguments (the receiver not counted): static, of a constructor, of an object of sort ts -/
def ev_callS (x1 x2 nx : Nat) (lo : e_L) (sk : List Value) : Option e_R :=
  cond (Nat.ble x2 sk.length && Nat.ble (ev_sum (sk.drop x2)) 8) (some (.inr (.inr (x1, (sk.take x2).reverse, nx, lo, sk.drop x2)))) none
def ev_callI (x1 x2 nx : Nat) (lo : e_L) (sk : List Value) : Option e_R := match sk.drop x2 with
  | .ref b :: r => cond (Nat.ble x2 sk.length && Nat.ble (ev_sum r) 8) (some (.inr (.inr (x1, .ref b :: (sk.take x2).reverse, nx, lo, r)))) none
  | _ => none
def ev_callV (x1 x2 nx : Nat) (ts : List Nat) (lo : e_L) (sk : List Value) (h : e_H) : Option e_R := match sk.drop x2, ts with
  | .ref b :: r, [ci] => match ev_obj h b ci with
    | some _ => cond (Nat.ble x2 sk.length && Nat.ble (ev_sum r) 8) (some (.inr (.inr (x1, .ref b :: (sk.take x2).reverse, nx, lo, r)))) none
    | none => none
  | _, _ => none
def ev_oin (nx : Nat) (lo : e_L) (sk : List Value) (h : e_H) : Option e_R := match sk with
  | .ref _ :: r => cond (Nat.ble (ev_sum r) 8) (ev_go nx lo r h) none
  | _ => none
def ev_nob (o : e_O) (n nx : Nat) (lo : e_L) (sk : List Value) (h : e_H) : Option e_R := match ev_new h o n with
  | some (z, h') => ev_go nx lo (.ref z :: sk) h'
  | none => none
def ev_rk : FieldType → Nat
  | .long => 1
  | .object _ => 2
  | .array _ => 2
  | .float => 9
  | .double => 9
  | _ => 0
def ev_ret (k : Nat) (rt : Option FieldType) (sk : List Value) : Option e_R := match sk, rt with
  | [w], some ty => cond (Nat.beq (ev_kd w) k && (Nat.beq (ev_rk ty) k && decide (narrow ty w = w))) (some (.inr (.inl (some w)))) none
  | _, _ => none
def ev_rtv (rt : Option FieldType) (sk : List Value) : Option e_R := match sk, rt with
  | [], none => some (.inr (.inl none))
  | _, _ => none
def ev_l2i (nx : Nat) (lo : e_L) (sk : List Value) (h : e_H) : Option e_R := match sk with
  | .long x :: r => ev_go nx lo (.int x.toInt32 :: r) h
  | _ => none
def ev_dup (nx : Nat) (lo : e_L) (sk : List Value) (h : e_H) : Option e_R := match sk with
  | w :: r => cond (Nat.beq w.category 1) (ev_go nx lo (w :: w :: r) h) none
  | _ => none
def ev_dup2 (nx : Nat) (lo : e_L) (sk : List Value) (h : e_H) : Option e_R := match sk with
  | w :: u :: r => cond (Nat.beq w.category 1 && Nat.beq u.category 1) (ev_go nx lo (w :: u :: w :: u :: r) h) none
  | _ => none
def ev_icm (c : ClassFile.Cond) (x1 nx : Nat) (lo : e_L) (sk : List Value) (h : e_H) : Option e_R := match sk with
  | .int y :: .int x :: r => ev_go (cond (ev_cmp c x y) x1 nx) lo r h
  | _ => none
def ev_ifc (c : ClassFile.Cond) (x1 nx : Nat) (lo : e_L) (sk : List Value) (h : e_H) : Option e_R := match sk with
  | .int x :: r => ev_go (cond (ev_cmp c x 0) x1 nx) lo r h
  | _ => none
/-- x1: if it is null -/
def ev_ifn (x1 nx : Nat) (lo : e_L) (sk : List Value) (h : e_H) : Option e_R := match sk with
  | .null :: r => ev_go x1 lo r h
  | .ref _ :: r => ev_go nx lo r h
  | _ => none
def ev_tss (ts : List Nat) (lo : e_L) (sk : List Value) (h : e_H) : Option e_R := match sk with
  | .int x :: r => ev_go (ev_tsw ts x) lo r h
  | _ => none
def ev_ins (bs : Nat) (sa : Nat → Nat) (rt : Option FieldType) (nx x1 x2 : Nat) (v : Value) (ts : List Nat) (lo : e_L) (sk : List Value) (h : e_H) (i : Instr) : Option e_R := match i with
  | .iconst _ => ev_go nx lo (v :: sk) h
  | .bipush _ => ev_go nx lo (v :: sk) h
  | .sipush _ => ev_go nx lo (v :: sk) h
  | .lconst _ => ev_go nx lo (v :: sk) h
  | .ldc _ => ev_go nx lo (v :: sk) h
  | .ldc2_w _ => ev_go nx lo (v :: sk) h
  | .aconst_null => ev_go nx lo (.null :: sk) h
  | .iload_n _ => ev_load 0 nx x1 lo sk h
  | .iload _ => ev_load 0 nx x1 lo sk h
  | .lload_n _ => ev_load 1 nx x1 lo sk h
  | .lload _ => ev_load 1 nx x1 lo sk h
  | .aload_n _ => ev_load 2 nx x1 lo sk h
  | .aload _ => ev_load 2 nx x1 lo sk h
  | .istore_n _ => ev_store 0 nx x1 lo sk h
  | .istore _ => ev_store 0 nx x1 lo sk h
  | .lstore_n _ => ev_storeL nx x1 lo sk h
  | .lstore _ => ev_storeL nx x1 lo sk h
  | .astore_n _ => ev_store 2 nx x1 lo sk h
  | .astore _ => ev_store 2 nx x1 lo sk h
  | .iinc _ _ => ev_inc nx x1 v lo sk h
  | .iadd => ev_bin (fun x y => x + y) nx lo sk h
  | .isub => ev_bin (fun x y => x - y) nx lo sk h
  | .imul => ev_bin (fun x y => x * y) nx lo sk h
  | .iand => ev_bin (fun x y => x &&& y) nx lo sk h
  | .ior => ev_bin (fun x y => x ||| y) nx lo sk h
  | .ixor => ev_bin (fun x y => x ^^^ y) nx lo sk h
  | .ishl => ev_bin (fun x y => x <<< (y &&& 31)) nx lo sk h
  | .ishr => ev_bin (fun x y => x >>> (y &&& 31)) nx lo sk h
  | .iushr => ev_bin (fun x y => (x.toUInt32 >>> (y.toUInt32 &&& Int32.toUInt32 31)).toInt32) nx lo sk h
  | .idiv => ev_div true nx lo sk h
  | .irem => ev_div false nx lo sk h
  | .ineg => ev_un (fun x => .int (-x)) nx lo sk h
  | .i2l => ev_un (fun x => .long x.toInt64) nx lo sk h
  | .i2s => ev_un (fun x => .int x.toInt16.toInt32) nx lo sk h
  | .l2i => ev_l2i nx lo sk h
  | .ladd => ev_binL (fun x y => .long (x + y)) nx lo sk h
  | .land => ev_binL (fun x y => .long (x &&& y)) nx lo sk h
  | .lor => ev_binL (fun x y => .long (x ||| y)) nx lo sk h
  | .lcmp => ev_binL (fun x y => .int (lg_cmp x y)) nx lo sk h
  | .lshl => ev_shL (fun x y => x <<< (y.toInt64 &&& 63)) nx lo sk h
  | .lshr => ev_shL (fun x y => x >>> (y.toInt64 &&& 63)) nx lo sk h
  | .lushr => ev_shL (fun x y => (x.toUInt64 >>> (y.toInt64.toUInt64 &&& Int64.toUInt64 63)).toInt64) nx lo sk h
  | .dup => ev_dup nx lo sk h
  | .dup2 => ev_dup2 nx lo sk h
  | .if_icmp c _ => ev_icm c x1 nx lo sk h
  | .ifCond c _ => ev_ifc c x1 nx lo sk h
  | .ifnull _ => ev_ifn x1 nx lo sk h
  | .ifnonnull _ => ev_ifn nx x1 lo sk h
  | .goto _ => ev_go x1 lo sk h
  | .tableswitch _ _ _ _ => ev_tss ts lo sk h
  | .getfield _ => ev_get x1 x2 nx lo sk h
  | .putfield _ => ev_put bs v x1 x2 nx lo sk h
  | .getstatic _ => ev_go nx lo (.ref (sa x1) :: sk) h
  | .iaload => ev_iald nx lo sk h
  | .iastore => ev_iast bs nx lo sk h
  | .laload => ev_lald nx lo sk h
  | .lastore => ev_last bs nx lo sk h
  | .aaload => ev_aald nx lo sk h
  | .aastore => ev_aast bs 1 nx lo sk h
  | .arraylength => ev_alen nx lo sk h
  | .newarray .int => ev_newa (fun n => .inr (.inl (n, fun _ => 0))) nx lo sk h
  | .newarray .long => ev_newa (fun n => .inr (.inr (.inl (n, fun _ => 0)))) nx lo sk h
  | .anewarray _ => ev_newa (fun n => .inr (.inr (.inr (n, fun _ => none)))) nx lo sk h
  | .new _ => ev_nob (.inl (x1, ts.map ev_z)) x2 nx lo sk h
  | .invokestatic _ => if x1 = 1001 then ev_cpy bs nx lo sk h else ev_callS x1 x2 nx lo sk
  | .invokespecial _ => if x1 = 1000 then ev_oin nx lo sk h else ev_callI x1 x2 nx lo sk
  | .invokevirtual _ => ev_callV x1 x2 nx ts lo sk h
  | .ireturn => ev_ret 0 rt sk
  | .lreturn => ev_ret 1 rt sk
  | .areturn => ev_ret 2 rt sk
  | .return_ => ev_rtv rt sk
  | _ => none
def ev_stp (bs : Nat) (sa : Nat → Nat) (T : e_M) (cf : e_C) : Option e_R := match ev_fnd T.2 cf.1 with
  | some (i, nx, x1, x2, v, ts) => ev_ins bs sa T.1.2.2.2.2 nx x1 x2 v ts cf.2.1 cf.2.2.1 cf.2.2.2 i
  | none => none
/-- n steps at most, to an end that E names: a place in the frame, or the method's answer; calls go by K -/
def ev_rch (bs : Nat) (sa : Nat → Nat) (K : Nat → List Value → e_H → Option Value → e_H → Prop) (T : e_M) (E : e_C ⊕ (Option Value × e_H) → Prop) : Nat → e_C → Prop
  | 0, cf => E (.inl cf)
  | n + 1, cf => E (.inl cf) ∨ match ev_stp bs sa T cf with
    | some (.inl cf') => ev_rch bs sa K T E n cf'
    | some (.inr (.inl v)) => E (.inr (v, cf.2.2.2))
    | some (.inr (.inr (y, as, nx, lo, r))) => ∃ v h', K y as cf.2.2.2 v h' ∧ ev_rch bs sa K T E n (nx, lo, v.toList ++ r, h')
    | none => False
def ev_args (vs : List Value) : e_L := vs.flatMap fun v => if v.category = 2 then [some v, none] else [some v]
/-- a method's first locals -/
def ev_loc (n : Nat) (vs : List Value) : e_L := ev_args vs ++ List.replicate (n - (ev_args vs).length) none
/-- the method y, with these arguments in this heap, ends so; d frames deep at most; tb: the methods -/
def ev_run (tb : Nat → Option e_M) (bs : Nat) (sa : Nat → Nat) : Nat → Nat → List Value → e_H → Option Value → e_H → Prop
  | 0 => fun _ _ _ _ _ => False
  | d + 1 => fun y as h v h' => ∃ T n, tb y = some T ∧ (ev_args as).length ≤ T.1.2.2.2.1 ∧ ev_rch bs sa (ev_run tb bs sa d) T (fun x => x = .inr (v, h')) n (0, ev_loc T.1.2.2.2.1 as, [], h)
/-- to an end that E names -/
def ev_E (tb : Nat → Option e_M) (bs : Nat) (sa : Nat → Nat) (d : Nat) (T : e_M) (E : e_C ⊕ (Option Value × e_H) → Prop) (cf : e_C) : Prop := ∃ n, ev_rch bs sa (ev_run tb bs sa d) T E n cf
end
section
/-! The evaluator's heaps and locals beside the machine's. -/
def ev_GW : List Cond := lw_tbl.filter goodWord
def ev_sts : List (String × String) := [("EnclaveMonitor$Hash", "FIRST_STATE"), ("EnclaveMonitor$Hash", "ROUND_WORDS"), ("EnclaveMonitor$Sealer", "CONSTANTS"), ("EnclaveMonitorModel", "BEGIN"), ("EnclaveMonitorModel", "ROUND")]
def ev_nq : List (String × Nat × MethodName × String) := [("EnclaveMonitor", 18, yX0_init, "EnclaveMonitor"), ("EnclaveMonitor", 25, yX2_init, "EnclaveMonitor"), ("EnclaveMonitor", 36, yX1_init, "EnclaveMonitor"), ("EnclaveMonitor$Sealer", 11, yX0_init, "EnclaveMonitor"), ("EnclaveMonitor$Runner", 37, yX4_isWithin, "EnclaveMonitor"), ("EnclaveMonitor$Page", 37, yX4_isWithin, "EnclaveMonitor")]
/-- what holds of the tables and of the static arrays at every state of the run -/
def ev_K (D : va_G) (bs : Nat) (sa : Nat → Nat) (U : State) : Prop := va_K D vwCl [] U ∧ (∀ (j : Nat) (q : String × String), ev_sts[j]? = some q → va_Z q.1 q.2 "[I" (.ref (sa j)) (fun z => bs ≤ z) U U.heap) ∧ (∀ q ∈ ev_nq, va_Nw (.methodLinkNest q.1 q.2.1 q.2.2.1 q.2.2.2) U) ∧ va_AO "EnclaveMonitor$Page" U
theorem ev_K.blind {D : va_G} {bs : Nat} {sa : Nat → Nat} {U V : State} (hv : U.vm = V.vm) (hh : U.heap = V.heap) (h : ev_K D bs sa U) : ev_K D bs sa V := by
  have ha : U.vm.Alike V.vm := by rw [hv]; exact Vm.Alike.refl V.vm
  exact ⟨va_K.moved ha h.1, fun j q hq => by rw [← hh]; exact va_Z.moved ha (h.2.1 j q hq), fun q hq => va_Nw.same rfl hv (h.2.2.1 q hq), va_AO.moved ha h.2.2.2⟩
theorem ev_K.warm {D : va_G} {bs : Nat} {sa : Nat → Nat} {s U : State} {H : Heap} {locs : List Loc} (hW : s.WarmedH U.vm) (hS : va_S (fun q => bs ≤ q) s.heap H locs) (hU : U.heap = H) (h : ev_K D bs sa s) : ev_K D bs sa U := by
  refine ⟨va_K.moved hW.alike h.1, fun j q hq => ?_, fun q hq => va_Nw.warmM hW (h.2.2.1 q hq), va_AO.moved hW.alike h.2.2.2⟩
  have h1 := va_Z.moved hW.alike (h.2.1 j q hq)
  rw [hU]
  exact va_Z.kept h1 (fun a ha hn => hS.2.1 a ha hn)
def ev_AR (U : State) (a : Nat) (ty : FieldType) (n : Nat) (g : Nat → Value) (H : Heap) : Prop := ∃ cell : Cell, H[a]? = some cell ∧ U.isArrayOf cell ty ∧ cell.vm ≠ .unknown ∧ cell.slots.size = n ∧ ∀ j, j < n → cell.slots[j]? = some (g j)
def ev_RR (D : va_G) (U : State) (a : Nat) (H : Heap) : Prop := ∃ (cell : Cell) (k : Class), H[a]? = some cell ∧ U.vm.classes[cell.cls]? = some k ∧ k.kind = .array (D.1 1) (.object "EnclaveMonitor$Page")
def ev_CR (D : va_G) (U : State) (a : Nat) (o : e_O) (H : Heap) : Prop := match o with
  | .inl x => ∃ r : vw_C, vwCl[x.1]? = some r ∧ x.2.length = r.2.2 ∧ t_OB a (D.1 x.1) r.2.2 (D.2 x.1) H (vp_V x.2)
  | .inr (.inl x) => ev_AR U a .int x.1 (fun j => .int (x.2 j)) H
  | .inr (.inr (.inl x)) => ev_AR U a .long x.1 (fun j => .long (x.2 j)) H
  | .inr (.inr (.inr x)) => ev_AR U a (.object "EnclaveMonitor$Page") x.1 (fun j => va_rf (x.2 j)) H ∧ ev_RR D U a H
def ev_P (D : va_G) (U : State) (h : e_H) (H : Heap) : Prop := (∀ a o, h.1 a = some o → ev_CR D U a o H) ∧ ∀ z u, h.2 = some (z, u) → H.size = z
theorem ev_AR.moved {u U : State} {a n : Nat} {ty : FieldType} {g : Nat → Value} {H : Heap} (hvm : u.vm.Alike U.vm) (h : ev_AR u a ty n g H) : ev_AR U a ty n g H := by
  obtain ⟨cell, h1, h2, h3⟩ := h
  exact ⟨cell, h1, State.isArrayOf_alike hvm h2, h3⟩
theorem ev_RR.moved {D : va_G} {u U : State} {a : Nat} {H : Heap} (hvm : u.vm.Alike U.vm) (h : ev_RR D u a H) : ev_RR D U a H := by
  obtain ⟨cell, k, h1, h2, h3⟩ := h
  obtain ⟨k', hk', he⟩ := hvm.2.2 _ _ h2
  exact ⟨cell, k', h1, hk', by rw [he]; exact h3⟩
theorem ev_CR.moved {D : va_G} {u U : State} {a : Nat} {o : e_O} {H : Heap} (hvm : u.vm.Alike U.vm) (h : ev_CR D u a o H) : ev_CR D U a o H := by
  match o, h with
  | .inl x, h => exact h
  | .inr (.inl x), h => exact ev_AR.moved hvm h
  | .inr (.inr (.inl x)), h => exact ev_AR.moved hvm h
  | .inr (.inr (.inr x)), h => exact ⟨ev_AR.moved hvm h.1, ev_RR.moved hvm h.2⟩
theorem ev_CR.kept {D : va_G} {U : State} {a : Nat} {o : e_O} {H H1 : Heap} (hq : H1[a]? = H[a]?) (h : ev_CR D U a o H) : ev_CR D U a o H1 := by
  match o, h with
  | .inl x, h => obtain ⟨r, h1, h2, h3⟩ := h; exact ⟨r, h1, h2, h3.kept hq⟩
  | .inr (.inl x), h => obtain ⟨c, h1, h2⟩ := h; exact ⟨c, by rw [hq]; exact h1, h2⟩
  | .inr (.inr (.inl x)), h => obtain ⟨c, h1, h2⟩ := h; exact ⟨c, by rw [hq]; exact h1, h2⟩
  | .inr (.inr (.inr x)), h => obtain ⟨⟨c, h1, h2⟩, ⟨c2, k, g1, g2⟩⟩ := h; exact ⟨⟨c, by rw [hq]; exact h1, h2⟩, ⟨c2, k, by rw [hq]; exact g1, g2⟩⟩
theorem ev_CR.lt {D : va_G} {U : State} {a : Nat} {o : e_O} {H : Heap} (h : ev_CR D U a o H) : a < H.size := by
  have key : ∀ {c : Cell}, H[a]? = some c → a < H.size := fun h => (Array.getElem?_eq_some_iff.mp h).1
  match o, h with
  | .inl x, h => obtain ⟨r, h1, h2, c, h3, h4⟩ := h; exact key h3
  | .inr (.inl x), h => obtain ⟨c, h1, h2⟩ := h; exact key h1
  | .inr (.inr (.inl x)), h => obtain ⟨c, h1, h2⟩ := h; exact key h1
  | .inr (.inr (.inr x)), h => obtain ⟨⟨c, h1, h2⟩, h3⟩ := h; exact key h1
theorem ev_P.moved {D : va_G} {u U : State} {h : e_H} {H : Heap} (hvm : u.vm.Alike U.vm) (hP : ev_P D u h H) : ev_P D U h H := ⟨fun a o ha => ev_CR.moved hvm (hP.1 a o ha), hP.2⟩
theorem ev_up_1 (h : e_H) (a : Nat) (o : e_O) (b : Nat) : (ev_up h a o).1 b = if b = a then some o else h.1 b := by
  by_cases hb : b = a
  · subst hb; simp [ev_up]
  · rw [if_neg hb]
    have : Nat.beq b a = false := by
      cases hq : Nat.beq b a with
      | false => rfl
      | true => exact absurd (Nat.eq_of_beq_eq_true hq) hb
    simp [ev_up, this]
theorem ev_P.put {D : va_G} {U : State} {h : e_H} {H H1 : Heap} {a : Nat} {o : e_O} (hP : ev_P D U h H) (hz : H1.size = H.size) (hq : ∀ q, q ≠ a → H1[q]? = H[q]?) (hc : ev_CR D U a o H1) : ev_P D U (ev_up h a o) H1 := by
  refine ⟨fun b x hb => ?_, fun z u hu => hz.trans (hP.2 z u hu)⟩
  rw [ev_up_1] at hb
  by_cases e : b = a
  · rw [if_pos e] at hb; cases hb; rw [e]; exact hc
  · rw [if_neg e] at hb; exact ev_CR.kept (hq b e) (hP.1 b x hb)
theorem ev_P.new {D : va_G} {U : State} {h h' : e_H} {H H1 : Heap} {o : e_O} {n z : Nat} (hP : ev_P D U h H) (hn : ev_new h o n = some (z, h')) (hz : H1.size = H.size + 1) (hq : ∀ q, q < H.size → H1[q]? = H[q]?) (hc : ev_CR D U H.size o H1) : z = H.size ∧ ev_P D U h' H1 ∧ ∃ w u, h.2 = some (w, u) ∧ h'.2 = some (w + 1, u + n) := by
  unfold ev_new at hn
  split at hn
  · rename_i w u hw
    have hs := hP.2 w u hw
    simp only [Option.some.injEq, Prod.mk.injEq] at hn
    obtain ⟨rfl, rfl⟩ := hn
    refine ⟨hs.symm, ⟨fun b x hb => ?_, fun z9 u9 hu => ?_⟩, w, u, hw, rfl⟩
    · dsimp only at hb
      by_cases e : b = w
      · subst e
        have : Nat.beq b b = true := by simp
        rw [this] at hb; cases hb; rw [← hs]; exact hc
      · have : Nat.beq b w = false := by
          cases hq9 : Nat.beq b w with
          | false => rfl
          | true => exact absurd (Nat.eq_of_beq_eq_true hq9) e
        rw [this] at hb
        have hb : h.1 b = some x := hb
        exact ev_CR.kept (hq b (hP.1 b x hb).lt) (hP.1 b x hb)
    · have e2 : some (w + 1, u + n) = some (z9, u9) := hu
      simp only [Option.some.injEq, Prod.mk.injEq] at e2
      rw [hz, hs]; exact e2.1
  · cases hn
theorem ev_AR.store {U : State} {a n : Nat} {ty : FieldType} {g g' : Nat → Value} {H H1 : Heap} {cell : Cell} {j : Nat} {w : Value} (h0 : H[a]? = some cell) (h1 : U.isArrayOf cell ty) (h2 : cell.vm ≠ .unknown) (h3 : cell.slots.size = n) (h4 : ∀ j, j < n → cell.slots[j]? = some (g j)) (hj : j < n) (hH : H1[a]? = some (cell.setSlot j w)) (hg : ∀ k, k < n → g' k = if k = j then w else g k) : ev_AR U a ty n g' H1 := by
  refine ⟨_, hH, h1, h2, by simp [Cell.setSlot, h3], fun k hk => ?_⟩
  rw [hg k hk]
  by_cases e : k = j
  · subst e; rw [if_pos rfl]; simp [Cell.setSlot, h3, hk]
  · rw [if_neg e, ← h4 k hk]; simp [Cell.setSlot, Array.getElem?_setIfInBounds_ne (fun q => e q.symm)]
/-- the locals -/
def ev_LR (ls : Array Slot) (nL : Nat) (lo : e_L) : Prop := lo.length = nL ∧ ls.size = nL ∧ lv_wf ls ∧ ∀ (i : Nat) (v : Value), lo[i]? = some (some v) → ls[i]? = some (.val v)
def ev_ll (lo : e_L) : List (Nat × Value) := (List.range lo.length).filterMap fun i => match lo[i]? with
  | some (some v) => some (i, v)
  | _ => none
theorem ev_ll_mem {lo : e_L} {i : Nat} {v : Value} : (i, v) ∈ ev_ll lo ↔ lo[i]? = some (some v) := by
  unfold ev_ll
  rw [List.mem_filterMap]
  constructor
  · rintro ⟨j, -, hj⟩
    split at hj
    · rename_i w hw
      simp only [Option.some.injEq, Prod.mk.injEq] at hj
      obtain ⟨rfl, rfl⟩ := hj
      exact hw
    · cases hj
  · intro h
    refine ⟨i, List.mem_range.mpr (List.getElem?_eq_some_iff.mp h).1, ?_⟩
    rw [h]
theorem ev_LR.has {ls : Array Slot} {nL : Nat} {lo : e_L} (h : ev_LR ls nL lo) : lv_has ls nL (ev_ll lo) := ⟨h.2.1, h.2.2.1, fun q hq => h.2.2.2 q.1 q.2 (ev_ll_mem.mp hq)⟩
theorem ev_nc_spec {lo : e_L} {i j : Nat} {v : Value} (hn : ev_nc lo i = true) (h : lo[j]? = some (some v)) : ¬ (j + 1 = i ∧ v.category = 2) := by
  rintro ⟨rfl, hc⟩
  have hn : ev_nc1 lo j = true := hn
  unfold ev_nc1 at hn
  rw [h] at hn
  have := Nat.eq_of_beq_eq_true hn
  omega
theorem ev_LR.st1 {ls' : Array Slot} {nL i : Nat} {lo : e_L} {w : Value} (hlen : lo.length = nL) (hi : i < nL) (hnc : ev_nc lo i = true) (h : lv_has ls' nL ((i, w) :: (ev_ll lo).filter (fun q => !(q.1 == i) && !(q.1 + 1 == i && q.2.category == 2)))) : ev_LR ls' nL (lo.set i (some w)) := by
  refine ⟨by rw [List.length_set]; exact hlen, h.1, h.2.1, fun j v hj => ?_⟩
  by_cases e : j = i
  · subst e
    rw [List.getElem?_set_self (by omega)] at hj
    cases hj
    exact h.2.2 (j, w) List.mem_cons_self
  · rw [List.getElem?_set_ne (fun q => e q.symm)] at hj
    have h2 := ev_nc_spec hnc hj
    refine h.2.2 (j, v) (List.mem_cons_of_mem _ (List.mem_filter.mpr ⟨ev_ll_mem.mpr hj, ?_⟩))
    simp only [Bool.and_eq_true, Bool.not_eq_true', beq_eq_false_iff_ne, ne_eq, Bool.and_eq_false_iff]
    refine ⟨e, ?_⟩
    by_cases q : j + 1 = i
    · exact Or.inr (fun z => h2 ⟨q, z⟩)
    · exact Or.inl q
theorem ev_LR.st2 {ls' : Array Slot} {nL i : Nat} {lo : e_L} {x : Int64} (hlen : lo.length = nL) (hi : i + 1 < nL) (hnc : ev_nc lo i = true) (h : lv_has ls' nL ((i, Value.long x) :: (ev_ll lo).filter (fun q => !(q.1 == i) && (!(q.1 == i + 1) && !(q.1 + 1 == i && q.2.category == 2))))) : ev_LR ls' nL ((lo.set i (some (.long x))).set (i + 1) none) := by
  refine ⟨by rw [List.length_set, List.length_set]; exact hlen, h.1, h.2.1, fun j v hj => ?_⟩
  by_cases e1 : j = i + 1
  · subst e1
    rw [List.getElem?_set_self (by rw [List.length_set]; omega)] at hj
    cases hj
  · rw [List.getElem?_set_ne (fun q => e1 q.symm)] at hj
    by_cases e : j = i
    · subst e
      rw [List.getElem?_set_self (by omega)] at hj
      cases hj
      exact h.2.2 (j, .long x) List.mem_cons_self
    · rw [List.getElem?_set_ne (fun q => e q.symm)] at hj
      have h2 := ev_nc_spec hnc hj
      refine h.2.2 (j, v) (List.mem_cons_of_mem _ (List.mem_filter.mpr ⟨ev_ll_mem.mpr hj, ?_⟩))
      simp only [Bool.and_eq_true, Bool.not_eq_true', beq_eq_false_iff_ne, ne_eq, Bool.and_eq_false_iff]
      refine ⟨e, e1, ?_⟩
      by_cases q : j + 1 = i
      · exact Or.inr (fun z => h2 ⟨q, z⟩)
      · exact Or.inl q
theorem ev_LR.entry (vs : List Value) {n : Nat} (h : (ev_args vs).length ≤ n) : ev_LR ((lg_sl vs ++ List.replicate (n - (lg_sl vs).length) Slot.unset).toArray) n (ev_loc n vs) := by
  have key : ∀ vs : List Value, (lg_sl vs).length = (ev_args vs).length ∧ ∀ (i : Nat) (v : Value), (ev_args vs)[i]? = some (some v) → (lg_sl vs)[i]? = some (.val v) := by
    intro vs
    induction vs with
    | nil => exact ⟨rfl, fun i v hi => by simp [ev_args] at hi⟩
    | cons w r ih =>
      have e1 : lg_sl (w :: r) = (if w.category = 2 then [Slot.val w, .second] else [.val w]) ++ lg_sl r := rfl
      have e2 : ev_args (w :: r) = (if w.category = 2 then [some w, none] else [some w]) ++ ev_args r := rfl
      rw [e1, e2]
      by_cases hc : w.category = 2
      · rw [if_pos hc, if_pos hc]
        refine ⟨by simp [ih.1], fun i v hi => ?_⟩
        match i, hi with
        | 0, hi => simp at hi; simp [hi]
        | 1, hi => simp at hi
        | i + 2, hi => simp at hi ⊢; exact ih.2 i v hi
      · rw [if_neg hc, if_neg hc]
        refine ⟨by simp [ih.1], fun i v hi => ?_⟩
        match i, hi with
        | 0, hi => simp at hi; simp [hi]
        | i + 1, hi => simp at hi ⊢; exact ih.2 i v hi
  obtain ⟨k1, k2⟩ := key vs
  have hv := lv_entry vs (n := n) (by rw [k1]; exact h)
  refine ⟨by simp [ev_loc]; omega, hv.1, hv.2.1, fun i v hi => ?_⟩
  unfold ev_loc at hi
  have hi2 : (ev_args vs)[i]? = some (some v) := by
    by_cases hl : i < (ev_args vs).length
    · rw [List.getElem?_append_left hl] at hi; exact hi
    · rw [List.getElem?_append_right (by omega), List.getElem?_replicate] at hi
      split at hi <;> simp at hi
  have h3 := k2 i v hi2
  simp only [List.getElem?_toArray]
  rw [List.getElem?_append_left (List.getElem?_eq_some_iff.mp h3).1]
  exact h3
def ev_cn (h : e_H) : Nat := match h.2 with
  | some (z, _) => z
  | none => 0
def ev_sn (h : e_H) : Nat := match h.2 with
  | some (_, u) => u
  | none => 0
end
section
/-! One step of the evaluator is a step of the machine. -/
def ev_ln : Instr → Nat
  | .bipush _ => 2
  | .ldc _ => 2
  | .iload _ => 2
  | .lload _ => 2
  | .aload _ => 2
  | .istore _ => 2
  | .lstore _ => 2
  | .astore _ => 2
  | .newarray _ => 2
  | .sipush _ => 3
  | .ldc2_w _ => 3
  | .iinc _ _ => 3
  | .if_icmp _ _ => 3
  | .ifCond _ _ => 3
  | .ifnull _ => 3
  | .ifnonnull _ => 3
  | .goto _ => 3
  | .getfield _ => 3
  | .putfield _ => 3
  | .getstatic _ => 3
  | .new _ => 3
  | .anewarray _ => 3
  | .invokestatic _ => 3
  | .invokespecial _ => 3
  | .invokevirtual _ => 3
  | .tableswitch _ _ _ _ => 0
  | _ => 1
def ev_okc (pc x1 : Nat) (v : Value) (ts : List Nat) (i : Instr) : Bool := match i with
  | .iconst n => decide (v = .int (Int32.ofInt n))
  | .bipush n => decide (v = .int (Int8.ofInt n).toInt32)
  | .sipush n => decide (v = .int (Int16.ofInt n).toInt32)
  | .lconst n => decide (v = .long (Int64.ofNat n))
  | .iload_n k => decide ((k : Nat) = x1)
  | .iload k => decide (k = x1)
  | .lload_n k => decide ((k : Nat) = x1)
  | .lload k => decide (k = x1)
  | .aload_n k => decide ((k : Nat) = x1)
  | .aload k => decide (k = x1)
  | .istore_n k => decide ((k : Nat) = x1)
  | .istore k => decide (k = x1)
  | .lstore_n k => decide ((k : Nat) = x1)
  | .lstore k => decide (k = x1)
  | .astore_n k => decide ((k : Nat) = x1)
  | .astore k => decide (k = x1)
  | .iinc k n => decide (k = x1) && decide (v = .int (Int32.ofInt n))
  | .if_icmp _ off => decide ((pc : Int) + off = (x1 : Int))
  | .ifCond _ off => decide ((pc : Int) + off = (x1 : Int))
  | .ifnull off => decide ((pc : Int) + off = (x1 : Int))
  | .ifnonnull off => decide ((pc : Int) + off = (x1 : Int))
  | .goto off => decide ((pc : Int) + off = (x1 : Int))
  | .tableswitch df lo hi offs => decide (lo = 0) && (decide (hi + 1 = (offs.size : Int)) && decide (ts.map (fun t : Nat => (t : Int) - (pc : Int)) = df :: offs.toList))
  | _ => true
def ev_okB (bytes : ByteArray) (pc : Nat) (q : e_E) : Bool := decide (decode bytes pc = .ok (q.1, q.2.1 - pc)) && (decide (pc < q.2.1) && ((decide (ev_ln q.1 = 0) || decide (q.2.1 = pc + ev_ln q.1)) && ev_okc pc q.2.2.1 q.2.2.2.2.1 q.2.2.2.2.2 q.1))
def ev_fk : FieldType → Nat
  | .int => 0
  | .long => 1
  | .object _ => 2
  | .array _ => 2
  | _ => 7
/-- the words of a call -/
def ev_cal (own : String) (idx : Nat) (T : e_M) (n : Nat) : Prop := (Cond.methodLink own idx T.1.2.1 ∈ ev_GW ∨ ∃ host, (own, idx, T.1.2.1, host) ∈ ev_nq) ∧ Cond.initialized T.1.2.1.cls ∈ ev_GW ∧ Cond.code T.1.2.1 T.1.2.2.1 T.1.2.2.2.1 T.1.2.2.2.2 ∈ ev_GW ∧ (T.1.2.1.cls ≠ "java/lang/invoke/MethodHandle" ∧ T.1.2.1.cls ≠ "java/lang/invoke/VarHandle" ∧ (parseMethodDescriptor T.1.2.1.desc).map (fun d => d.parameters.length) = some n) ∧ T.1.2.2.2.1 ≤ 21
def ev_okW (tb : Nat → Option e_M) (own nm : String) (x1 x2 : Nat) (v : Value) (ts : List Nat) (i : Instr) : Prop := match i with
  | .ldc idx => ∃ z : Int32, v = .int z ∧ Cond.constant own idx z ∈ ev_GW
  | .ldc2_w idx => ∃ z : Int64, v = .long z ∧ Cond.constantLong own idx z ∈ ev_GW
  | .getfield idx => ∃ r : vw_C, vwCl[x1]? = some r ∧ (∀ w ∈ u_ws r.1 r.2.1 r.2.2, w ∈ ev_GW) ∧ x2 < r.2.2 ∧ Cond.fieldLink own idx (r.2.1 x2).1 (r.2.1 x2).2.1 (r.2.1 x2).2.2.1 ∈ ev_GW
  | .putfield idx => ∃ (r : vw_C) (ty : Nat → FieldType), vwCl[x1]? = some r ∧ (∀ w ∈ u_ws r.1 r.2.1 r.2.2, w ∈ ev_GW) ∧ x2 < r.2.2 ∧ Cond.fieldLink own idx (r.2.1 x2).1 (r.2.1 x2).2.1 (r.2.1 x2).2.2.1 ∈ ev_GW ∧ (∀ k, k < r.2.2 → parseFieldDescriptor (r.2.1 k).2.2.1 = some (ty k)) ∧ (∀ a, a < r.2.2 → ∀ b, b < r.2.2 → a ≠ b → (r.2.1 a).2.1 ≠ (r.2.1 b).2.1) ∧ ev_fk (ty x2) = ev_kd v ∧ ((r.2.1 x2).2.2.2 = false ∨ ((r.2.1 x2).2.2.2 = true ∧ nm = "<init>" ∧ (r.2.1 x2).1 = own))
  | .getstatic idx => ∃ q : String × String, ev_sts[x1]? = some q ∧ Cond.fieldLink own idx q.1 q.2 "[I" ∈ ev_GW
  | .new idx => ∃ (r : vw_C) (ty : Nat → FieldType), vwCl[x1]? = some r ∧ (∀ w ∈ u_ws r.1 r.2.1 r.2.2, w ∈ ev_GW) ∧ x2 = r.2.2 ∧ (∀ k, k < r.2.2 → parseFieldDescriptor (r.2.1 k).2.2.1 = some (ty k)) ∧ Cond.classLink own idx r.1 ∈ ev_GW ∧ Cond.instantiable r.1 r.2.2 ∈ ev_GW ∧ Cond.initialized r.1 ∈ ev_GW ∧ ts.length = r.2.2 ∧ ∀ j, j < r.2.2 → defaultValue (ty j) = vp_V (ts.map ev_z) j
  | .anewarray idx => Cond.classLink own idx "EnclaveMonitor$Page" ∈ ev_GW
  | .invokestatic idx => if x1 = 1001 then Cond.methodLink own idx arraycopyName ∈ ev_GW else ∃ T, tb x1 = some T ∧ ev_cal own idx T x2 ∧ Cond.static T.1.2.1 ∈ ev_GW
  | .invokespecial idx => if x1 = 1000 then Cond.methodLink own idx objectInit ∈ ev_GW else ∃ T, tb x1 = some T ∧ ev_cal own idx T x2 ∧ T.1.2.1.name = "<init>" ∧ Cond.instanceMethod T.1.2.1 ∈ ev_GW ∧ T.1.2.2.2.2 = none
  | .invokevirtual idx => ∃ (T : e_M) (ci : Nat) (r : vw_C), tb x1 = some T ∧ ts = [ci] ∧ vwCl[ci]? = some r ∧ T.1.2.1.cls = r.1 ∧ ev_cal own idx T x2 ∧ Cond.instanceMethod T.1.2.1 ∈ ev_GW ∧ Cond.selects r.1 T.1.2.1 T.1.2.1 ∈ ev_GW
  | _ => True
def ev_okE (tb : Nat → Option e_M) (T : e_M) (pc : Nat) (q : e_E) : Prop := ev_okB T.1.2.2.1 pc q = true ∧ ev_okW tb T.1.1 T.1.2.1.name q.2.2.1 q.2.2.2.1 q.2.2.2.2.1 q.2.2.2.2.2 q.1
def ev_ok (tb : Nat → Option e_M) (T : e_M) : Prop := T.1.2.1.cls = T.1.1 ∧ plainName T.1.1 = true ∧ ∀ q ∈ T.2, ev_okE tb T q.1 q.2
theorem ev_fnd_mem : ∀ (l : List (Nat × e_E)) (pc : Nat) (q : e_E), ev_fnd l pc = some q → (pc, q) ∈ l := by
  intro l
  induction l with
  | nil => intro pc q h; cases h
  | cons e r ih =>
    intro pc q h
    unfold ev_fnd at h
    cases hb : Nat.beq e.1 pc with
    | true =>
      rw [hb] at h
      have e1 := Nat.eq_of_beq_eq_true hb
      have h : some e.2 = some q := h
      cases h
      rw [← e1]
      exact List.mem_cons_self
    | false =>
      rw [hb] at h
      exact List.mem_cons_of_mem _ (ih pc q h)
def ev_glob : Prop := Cond.native arraycopyName ∈ ev_GW ∧ Cond.static arraycopyName ∈ ev_GW ∧ Cond.initialized "java/lang/System" ∈ ev_GW ∧ Cond.instanceMethod objectInit ∈ ev_GW ∧ Cond.code objectInit ⟨#[0xb1]⟩ 1 none ∈ ev_GW ∧ Cond.arrayClass .int ∈ ev_GW ∧ Cond.arrayClass .long ∈ ev_GW
def ev_X (p : Program) (R : Room) (s : State) (m : MethodId) (args : Array Value) (meth : Method) (c : Code) (D : va_G) (bs : Nat) (sa : Nat → Nat) (T : e_M) (d : Nat) : Prop :=
  p.tables.exec = Jvm.exec ∧ c.code = T.1.2.2.1 ∧ c.maxLocals = T.1.2.2.2.1 ∧ meth.sig.returnType = T.1.2.2.2.2 ∧ s.vm.findClass T.1.1 = some m.cls ∧ meth.name = T.1.2.1.name ∧ meth.locks = false ∧ (∀ w ∈ ev_GW, w.before args s = true) ∧ ev_K D bs sa s ∧ d + 1 ≤ R.frames ∧ 40 * (d + 1) ≤ R.locals ∧ bs ≤ s.heap.size
def ev_G (p : Program) (l : Launch) (e : Env) (R : Room) (s : State) (m : MethodId) (args : Array Value) (below : List Frame) (meth : Method) (c : Code) (D : va_G) (bs : Nat) (T : e_M) (c0 s0 : Nat) (Q : State → Prop) (cf : e_C) : Prop :=
  ∀ (H : Heap) (locs : List Loc) (ls : Array Slot), ev_P D s cf.2.2.2 H → va_S (fun q => bs ≤ q) s.heap H locs → ev_LR ls T.1.2.2.2.1 cf.2.1 → W p l e R s m args below meth c H locs (ev_cn cf.2.2.2 - c0) (ev_sn cf.2.2.2 - s0) Q (F0 m cf.1 ls cf.2.2.1)
theorem ev_kd0 {w : Value} {k : Nat} (h : ev_kd w = k) (hk : k = 0) : ∃ x, w = .int x := by
  subst hk; cases w <;> first | exact ⟨_, rfl⟩ | (simp [ev_kd] at h)
theorem ev_kd1 {w : Value} {k : Nat} (h : ev_kd w = k) (hk : k = 1) : ∃ x, w = .long x := by
  subst hk; cases w <;> first | exact ⟨_, rfl⟩ | (simp [ev_kd] at h)
theorem ev_kd2 {w : Value} {k : Nat} (h : ev_kd w = k) (hk : k = 2) : w = .null ∨ ∃ x, w = .ref x := by
  subst hk; cases w <;> first | exact Or.inl rfl | exact Or.inr ⟨_, rfl⟩ | (simp [ev_kd] at h)
theorem ev_fit {ty : FieldType} {w : Value} (h : ev_fk ty = ev_kd w) : narrow ty w = w ∧ fits ty w = true := by
  cases ty <;> cases w <;> first | exact ⟨rfl, rfl⟩ | (simp [ev_fk, ev_kd] at h)
theorem ev_ld_spec {lo : e_L} {i k : Nat} {w : Value} (h : ev_ld lo i k = some w) : lo[i]? = some (some w) ∧ ev_kd w = k := by
  unfold ev_ld at h
  split at h
  · rename_i u hu
    cases hb : Nat.beq (ev_kd u) k with
    | true => rw [hb] at h; cases h; exact ⟨hu, Nat.eq_of_beq_eq_true hb⟩
    | false => rw [hb] at h; cases h
  · cases h
theorem ev_cond {b : Bool} {α : Type} {x y : Option α} {z : α} (h : cond b x none = some z) : b = true ∧ x = some z := by
  cases b with
  | true => exact ⟨rfl, h⟩
  | false => cases h
theorem ev_obj_spec {h : e_H} {a ci : Nat} {fs : List Value} (q : ev_obj h a ci = some fs) : h.1 a = some (.inl (ci, fs)) := by
  unfold ev_obj at q
  split at q
  · rename_i c f hc
    obtain ⟨q1, q2⟩ := ev_cond (y := some fs) q
    cases q2
    rw [hc, Nat.eq_of_beq_eq_true q1]
  · cases q
theorem ev_ia_spec {h : e_H} {a : Nat} {x : Nat × (Nat → Int32)} (q : ev_ia h a = some x) : h.1 a = some (.inr (.inl x)) := by
  unfold ev_ia at q
  split at q
  · rename_i c hc; cases q; exact hc
  · cases q
theorem ev_la_spec {h : e_H} {a : Nat} {x : Nat × (Nat → Int64)} (q : ev_la h a = some x) : h.1 a = some (.inr (.inr (.inl x))) := by
  unfold ev_la at q
  split at q
  · rename_i c hc; cases q; exact hc
  · cases q
theorem ev_ra_spec {h : e_H} {a : Nat} {x : Nat × (Nat → Option Nat)} (q : ev_ra h a = some x) : h.1 a = some (.inr (.inr (.inr x))) := by
  unfold ev_ra at q
  split at q
  · rename_i c hc; cases q; exact hc
  · cases q
theorem ev_in_spec {i : Int32} {n : Nat} (h : ev_in i n = true) : ¬ i < 0 ∧ i.toNatClampNeg < n := by
  unfold ev_in at h
  rw [Bool.and_eq_true] at h
  exact ⟨by simpa using h.1, Nat.lt_of_succ_le (Nat.le_of_ble_eq_true h.2)⟩
theorem ev_in_not {i : Int32} {n : Nat} (h : ev_in i n = true) : ¬ (i < 0 ∨ n ≤ i.toNatClampNeg) := by
  obtain ⟨h1, h2⟩ := ev_in_spec h
  rintro (q | q)
  · exact h1 q
  · omega
section EVS
variable {p : Program} {l : Launch} {e : Env} {R : Room} {s : State} {m : MethodId} {args : Array Value} {below : List Frame} {meth : Method} {c : Code} {D : va_G} {bs : Nat} {sa : Nat → Nat} {T : e_M} {d c0 s0 : Nat} {Q : State → Prop} {tb : Nat → Option e_M}
variable {pc nx x1 x2 : Nat} {v : Value} {ts : List Nat} {lo : e_L} {sk : List Value} {h : e_H} {cf' : e_C}
/-- a load -/
theorem ev_s_load {k : Nat} {i : Instr} (X : ev_X p R s m args meth c D bs sa T d) (hd : decode T.1.2.2.1 pc = .ok (i, ev_ln i)) (hn : nx = pc + ev_ln i)
    (hi : (k = 0 ∧ (i = .iload x1 ∨ ∃ j : Fin 4, i = .iload_n j ∧ (j : Nat) = x1)) ∨ (k = 1 ∧ (i = .lload x1 ∨ ∃ j : Fin 4, i = .lload_n j ∧ (j : Nat) = x1)) ∨ (k = 2 ∧ (i = .aload x1 ∨ ∃ j : Fin 4, i = .aload_n j ∧ (j : Nat) = x1)))
    (hs : ev_load k nx x1 lo sk h = some (.inl cf')) (kk : ev_G p l e R s m args below meth c D bs T c0 s0 Q cf') : ev_G p l e R s m args below meth c D bs T c0 s0 Q (pc, lo, sk, h) := by
  obtain ⟨hx, hb, -⟩ := X
  unfold ev_load at hs
  split at hs
  · rename_i w hw
    obtain ⟨hl, hk⟩ := ev_ld_spec hw
    have hs : some (Sum.inl (nx, lo, w :: sk, h)) = some (.inl cf') := hs
    cases hs
    intro H locs ls hP hS hL
    have hv := hL.2.2.2 x1 w hl
    have kk := kk H locs ls hP hS hL
    subst hn
    rcases hi with ⟨hk0, rfl | ⟨j, rfl, hj⟩⟩ | ⟨hk0, rfl | ⟨j, rfl, hj⟩⟩ | ⟨hk0, rfl | ⟨j, rfl, hj⟩⟩
    · obtain ⟨x, rfl⟩ := ev_kd0 hk hk0; exact lv_iload hx hb hd hv kk
    · obtain ⟨x, rfl⟩ := ev_kd0 hk hk0; exact lv_iload_n hx hb hd hj hv kk
    · obtain ⟨x, rfl⟩ := ev_kd1 hk hk0; exact lv_lload hx hb hd hv kk
    · obtain ⟨x, rfl⟩ := ev_kd1 hk hk0; exact lv_lload_n hx hb hd hj hv kk
    · rcases ev_kd2 hk hk0 with rfl | ⟨x, rfl⟩
      · exact lv_aloadN hx hb hd hv kk
      · exact lv_aload hx hb hd hv kk
    · rcases ev_kd2 hk hk0 with rfl | ⟨x, rfl⟩
      · exact lv_aload_nN hx hb hd hj hv kk
      · exact lv_aload_n hx hb hd hj hv kk
  · cases hs
/-- a store -/
theorem ev_s_store {k : Nat} {i : Instr} (X : ev_X p R s m args meth c D bs sa T d) (hd : decode T.1.2.2.1 pc = .ok (i, ev_ln i)) (hn : nx = pc + ev_ln i)
    (hi : (k = 0 ∧ (i = .istore x1 ∨ ∃ j : Fin 4, i = .istore_n j ∧ (j : Nat) = x1)) ∨ (k = 2 ∧ (i = .astore x1 ∨ ∃ j : Fin 4, i = .astore_n j ∧ (j : Nat) = x1)))
    (hs : ev_store k nx x1 lo sk h = some (.inl cf')) (kk : ev_G p l e R s m args below meth c D bs T c0 s0 Q cf') : ev_G p l e R s m args below meth c D bs T c0 s0 Q (pc, lo, sk, h) := by
  obtain ⟨hx, hb, -⟩ := X
  unfold ev_store at hs
  split at hs
  · rename_i w r
    obtain ⟨hq, hs⟩ := ev_cond (y := some (Sum.inl cf')) hs
    rw [Bool.and_eq_true, Bool.and_eq_true] at hq
    have hk := Nat.eq_of_beq_eq_true hq.1
    have hlen : x1 < lo.length := Nat.lt_of_succ_le (Nat.le_of_ble_eq_true hq.2.1)
    have hnc := hq.2.2
    have hs : some (Sum.inl (nx, lo.set x1 (some w), r, h)) = some (.inl cf') := hs
    cases hs
    intro H locs ls hP hS hL
    subst hn
    have hh := hL.has
    have hll : lo.length = T.1.2.2.2.1 := hL.1
    have h1 : x1 < T.1.2.2.2.1 := by omega
    rcases hi with ⟨hk0, hi⟩ | ⟨hk0, hi⟩
    · obtain ⟨x, rfl⟩ := ev_kd0 hk hk0
      rcases hi with rfl | ⟨j, rfl, hj⟩
      · exact lv_istore hx hb hd hh h1 rfl (fun ls' hl => kk H locs ls' hP hS (ev_LR.st1 hll h1 hnc hl))
      · exact lv_istore_n hx hb hd hj hh h1 rfl (fun ls' hl => kk H locs ls' hP hS (ev_LR.st1 hll h1 hnc hl))
    · rcases ev_kd2 hk hk0 with rfl | ⟨x, rfl⟩
      · rcases hi with rfl | ⟨j, rfl, hj⟩
        · exact lv_astoreN hx hb hd hh h1 rfl (fun ls' hl => kk H locs ls' hP hS (ev_LR.st1 hll h1 hnc hl))
        · exact lv_astore_nN hx hb hd hj hh h1 rfl (fun ls' hl => kk H locs ls' hP hS (ev_LR.st1 hll h1 hnc hl))
      · rcases hi with rfl | ⟨j, rfl, hj⟩
        · exact lv_astore hx hb hd hh h1 rfl (fun ls' hl => kk H locs ls' hP hS (ev_LR.st1 hll h1 hnc hl))
        · exact lv_astore_n hx hb hd hj hh h1 rfl (fun ls' hl => kk H locs ls' hP hS (ev_LR.st1 hll h1 hnc hl))
  · cases hs
theorem ev_s_storeL {i : Instr} (X : ev_X p R s m args meth c D bs sa T d) (hd : decode T.1.2.2.1 pc = .ok (i, ev_ln i)) (hn : nx = pc + ev_ln i)
    (hi : i = .lstore x1 ∨ ∃ j : Fin 4, i = .lstore_n j ∧ (j : Nat) = x1)
    (hs : ev_storeL nx x1 lo sk h = some (.inl cf')) (kk : ev_G p l e R s m args below meth c D bs T c0 s0 Q cf') : ev_G p l e R s m args below meth c D bs T c0 s0 Q (pc, lo, sk, h) := by
  obtain ⟨hx, hb, -⟩ := X
  unfold ev_storeL at hs
  split at hs
  · rename_i x r
    obtain ⟨hq, hs⟩ := ev_cond (y := some (Sum.inl cf')) hs
    rw [Bool.and_eq_true] at hq
    have hlen : x1 + 1 < lo.length := Nat.lt_of_succ_le (Nat.le_of_ble_eq_true hq.1)
    have hnc := hq.2
    have hs : some (Sum.inl (nx, (lo.set x1 (some (.long x))).set (x1 + 1) none, r, h)) = some (.inl cf') := hs
    cases hs
    intro H locs ls hP hS hL
    subst hn
    have hh := hL.has
    have hll : lo.length = T.1.2.2.2.1 := hL.1
    have h1 : x1 + 1 < T.1.2.2.2.1 := by omega
    rcases hi with rfl | ⟨j, rfl, hj⟩
    · exact lv_lstore hx hb hd hh h1 rfl (fun ls' hl => kk H locs ls' hP hS (ev_LR.st2 hll h1 hnc hl))
    · exact lv_lstore_n hx hb hd hj hh h1 rfl (fun ls' hl => kk H locs ls' hP hS (ev_LR.st2 hll h1 hnc hl))
  · cases hs
theorem ev_s_inc {n : Int} (X : ev_X p R s m args meth c D bs sa T d) (hd : decode T.1.2.2.1 pc = .ok (.iinc x1 n, 3)) (hn : nx = pc + 3) (hv : v = .int (Int32.ofInt n))
    (hs : ev_inc nx x1 v lo sk h = some (.inl cf')) (kk : ev_G p l e R s m args below meth c D bs T c0 s0 Q cf') : ev_G p l e R s m args below meth c D bs T c0 s0 Q (pc, lo, sk, h) := by
  obtain ⟨hx, hb, -⟩ := X
  subst hv
  unfold ev_inc at hs
  split at hs
  · rename_i x cst hw hc
    cases hc
    obtain ⟨hl, hk⟩ := ev_ld_spec hw
    obtain ⟨hnc, hs⟩ := ev_cond (y := some (Sum.inl cf')) hs
    have hs : some (Sum.inl (nx, lo.set x1 (some (.int (x + Int32.ofInt n))), sk, h)) = some (.inl cf') := hs
    cases hs
    intro H locs ls hP hS hL
    subst hn
    have hh := hL.has
    have hll : lo.length = T.1.2.2.2.1 := hL.1
    have h1 : x1 < T.1.2.2.2.1 := by have := (List.getElem?_eq_some_iff.mp hl).1; omega
    obtain ⟨j, hj⟩ := List.getElem?_of_mem (ev_ll_mem.mpr hl)
    exact lv_iinc hx hb hd hh hj rfl h1 rfl (fun ls' hl => kk H locs ls' hP hS (ev_LR.st1 hll h1 hnc hl))
  · cases hs
end EVS
end
section
section EVT
variable {p : Program} {l : Launch} {e : Env} {R : Room} {s : State} {m : MethodId} {args : Array Value} {below : List Frame} {meth : Method} {c : Code} {D : va_G} {bs : Nat} {sa : Nat → Nat} {T : e_M} {d c0 s0 : Nat} {Q : State → Prop} {tb : Nat → Option e_M}
variable {pc nx x1 x2 : Nat} {v : Value} {ts : List Nat} {lo : e_L} {sk : List Value} {h : e_H} {cf' : e_C}
theorem ev_s_get {idx : Nat} (X : ev_X p R s m args meth c D bs sa T d) (hd : decode T.1.2.2.1 pc = .ok (.getfield idx, 3)) (hn : nx = pc + 3)
    (hW : ∃ r : vw_C, vwCl[x1]? = some r ∧ (∀ w ∈ u_ws r.1 r.2.1 r.2.2, w ∈ ev_GW) ∧ x2 < r.2.2 ∧ Cond.fieldLink T.1.1 idx (r.2.1 x2).1 (r.2.1 x2).2.1 (r.2.1 x2).2.2.1 ∈ ev_GW)
    (hs : ev_get x1 x2 nx lo sk h = some (.inl cf')) (kk : ev_G p l e R s m args below meth c D bs T c0 s0 Q cf') : ev_G p l e R s m args below meth c D bs T c0 s0 Q (pc, lo, sk, h) := by
  obtain ⟨hx, hb, -, -, hown, -, -, hts, hK, -⟩ := X
  obtain ⟨⟨C, Tc, N⟩, hr, hin, hk, hl⟩ := hW
  dsimp only at hin hk hl
  unfold ev_get at hs
  split at hs
  · rename_i a r
    split at hs
    · rename_i fs hfs
      split at hs
      · rename_i w hw
        have hs : some (Sum.inl (nx, lo, w :: r, h)) = some (.inl cf') := hs
        cases hs
        intro H locs ls hP hS hL
        subst hn
        obtain ⟨r', h1, h2, h3⟩ := hP.1 a _ (ev_obj_spec hfs)
        have hP1 : va_P D vwCl [(a, .inr (x1, fs))] H := fun k q hq => by
          match k, hq with
          | 0, hq => cases hq; exact ⟨r', h1, h3⟩
        exact va_get (ci := x1) (C := C) (T := Tc) (N := N) hx hb hts hin hown hK.1 hP1 0 rfl hr x2 hk (hts _ hl) (fun _ h9 => h9) hw hd (kk H locs ls hP hS hL)
      · cases hs
    · cases hs
  · cases hs
theorem ev_s_put {idx : Nat} (X : ev_X p R s m args meth c D bs sa T d) (hd : decode T.1.2.2.1 pc = .ok (.putfield idx, 3)) (hn : nx = pc + 3)
    (hW : ∃ (r : vw_C) (ty : Nat → FieldType), vwCl[x1]? = some r ∧ (∀ w ∈ u_ws r.1 r.2.1 r.2.2, w ∈ ev_GW) ∧ x2 < r.2.2 ∧ Cond.fieldLink T.1.1 idx (r.2.1 x2).1 (r.2.1 x2).2.1 (r.2.1 x2).2.2.1 ∈ ev_GW ∧ (∀ k, k < r.2.2 → parseFieldDescriptor (r.2.1 k).2.2.1 = some (ty k)) ∧ (∀ a, a < r.2.2 → ∀ b, b < r.2.2 → a ≠ b → (r.2.1 a).2.1 ≠ (r.2.1 b).2.1) ∧ ev_fk (ty x2) = ev_kd v ∧ ((r.2.1 x2).2.2.2 = false ∨ ((r.2.1 x2).2.2.2 = true ∧ T.1.2.1.name = "<init>" ∧ (r.2.1 x2).1 = T.1.1)))
    (hs : ev_put bs v x1 x2 nx lo sk h = some (.inl cf')) (kk : ev_G p l e R s m args below meth c D bs T c0 s0 Q cf') : ev_G p l e R s m args below meth c D bs T c0 s0 Q (pc, lo, sk, h) := by
  obtain ⟨hx, hb, -, -, hown, hnm, -, hts, hK, -⟩ := X
  obtain ⟨⟨C, Tc, N⟩, ty, hr, hin, hk, hl, hty, hap, hfk, hfin⟩ := hW
  dsimp only at hin hk hl hty hap hfin
  unfold ev_put at hs
  split at hs
  · rename_i w a r
    split at hs
    · rename_i fs hfs
      obtain ⟨hq, hs⟩ := ev_cond (y := some (Sum.inl cf')) hs
      rw [Bool.and_eq_true, Bool.and_eq_true] at hq
      have hba := Nat.le_of_ble_eq_true hq.1
      have hlt : x2 < fs.length := Nat.lt_of_succ_le (Nat.le_of_ble_eq_true hq.2.1)
      have hkd := Nat.eq_of_beq_eq_true hq.2.2
      have hs : some (Sum.inl (nx, lo, r, ev_up h a (.inl (x1, fs.set x2 w)))) = some (.inl cf') := hs
      cases hs
      intro H locs ls hP hS hL
      subst hn
      obtain ⟨r', h1, h2, h3⟩ := hP.1 a _ (ev_obj_spec hfs)
      have hrr : r' = (C, Tc, N) := Option.some.inj (h1.symm.trans hr)
      subst hrr
      obtain ⟨hnar, hfit⟩ := ev_fit (hfk.trans hkd.symm)
      have hapart := va_apart (own := T.1.1) hts hin ty hty hap hK.1 hr
      obtain ⟨cell, q1, q2, q3, q4⟩ := h3
      obtain ⟨hSl, hfc, kC, hkC, hkind⟩ := hK.1.1 x1 _ hr
      obtain ⟨cf, kf, fi, f, hi, hsl⟩ := hSl x2 hk
      dsimp only at q4 hi hsl hfc
      have hst := (u_facts hfc hkC (u_lays hts hin hk) hi).1
      have hgo : ∀ (H' : Heap), H'[a]? = some (cell.setSlot f.slot w) → H'.size = H.size → (∀ q, q ≠ a → H'[q]? = H[q]?) → W p l e R s m args below meth c H' (locs ++ [⟨a, f.slot⟩]) (ev_cn h - c0) (ev_sn h - s0) Q (F0 m (pc + 3) ls r) := by
        intro H' e1 e2 e3
        rw [hsl] at e1
        refine kk H' _ ls (hP.put e2 e3 ⟨(C, Tc, N), hr, ?_, t_OB.to (V := updV (vp_V fs) x2 w) ⟨_, e1, q2, q3, t_set q4 hapart hk w⟩ (fun j _ => vp_updV_set hlt w j)⟩) (hS.put e2 e3 hba) hL
        rw [List.length_set]; exact h2
      rcases hfin with hfin | ⟨hfin, hini, hdecl⟩
      · have hlay := hts _ (hin _ (u_in_lay hk))
        unfold u_lay at hlay
        rw [if_neg (by rw [hfin]; decide)] at hlay
        have h6 := u_store hfc hkC hkind hlay hi (hty x2 hk) hnar hfit
        exact W.putK hx hb (f := f) ⟨hown, hts _ hl, ⟨_, _, _, hi⟩, hst⟩ (by rw [q2]; exact h6) q1 q3 (by rw [hsl]; exact k2_hasslot (q4 x2 hk)) rfl rfl hd hgo
      · have hlay := hts _ (hin _ (u_in_lay hk))
        unfold u_lay at hlay
        rw [if_pos hfin] at hlay
        have hcf : m.cls = cf := by
          obtain ⟨_, _, c', _, _, _, -, -, hf', -, -, -, hown2, -⟩ := Cond.laysFinal_spec hlay
          have e1 : c' = cf := by have := hi.symm.trans hf'; simp at this; exact this.1.symm
          rw [hdecl] at hown2
          rw [← e1]; exact Option.some.inj (hown.symm.trans hown2)
        have h6 := u_fits hfc hkC hkind (Or.inr hlay) hi (hty x2 hk) hnar hfit
        exact W.putFinK hx hb hown (hts _ hl) hi hst hcf (hnm.trans hini) (by rw [q2]; exact h6) q1 q3 (by rw [hsl]; exact k2_hasslot (q4 x2 hk)) rfl rfl hd hgo
    · cases hs
  · cases hs
theorem ev_s_iald (X : ev_X p R s m args meth c D bs sa T d) (hd : decode T.1.2.2.1 pc = .ok (.iaload, 1)) (hn : nx = pc + 1)
    (hs : ev_iald nx lo sk h = some (.inl cf')) (kk : ev_G p l e R s m args below meth c D bs T c0 s0 Q cf') : ev_G p l e R s m args below meth c D bs T c0 s0 Q (pc, lo, sk, h) := by
  obtain ⟨hx, hb, -⟩ := X
  unfold ev_iald at hs
  split at hs
  · rename_i i a r
    split at hs
    · rename_i x hxa
      obtain ⟨hq, hs⟩ := ev_cond (y := some (Sum.inl cf')) hs
      have hs : some (Sum.inl (nx, lo, .int (x.2 i.toNatClampNeg) :: r, h)) = some (.inl cf') := hs
      cases hs
      intro H locs ls hP hS hL
      subst hn
      obtain ⟨cell, h1, h2, h3, h4, h5⟩ := hP.1 a _ (ev_ia_spec hxa)
      exact W.iald (v := .int (x.2 i.toNatClampNeg)) hx hb h1 h2 h3 (by rw [h4]; exact ev_in_not hq) (h5 _ (ev_in_spec hq).2) rfl rfl hd (kk H locs ls hP hS hL)
    · cases hs
  · cases hs
theorem ev_s_lald (X : ev_X p R s m args meth c D bs sa T d) (hd : decode T.1.2.2.1 pc = .ok (.laload, 1)) (hn : nx = pc + 1)
    (hs : ev_lald nx lo sk h = some (.inl cf')) (kk : ev_G p l e R s m args below meth c D bs T c0 s0 Q cf') : ev_G p l e R s m args below meth c D bs T c0 s0 Q (pc, lo, sk, h) := by
  obtain ⟨hx, hb, -⟩ := X
  unfold ev_lald at hs
  split at hs
  · rename_i i a r
    split at hs
    · rename_i x hxa
      obtain ⟨hq, hs⟩ := ev_cond (y := some (Sum.inl cf')) hs
      have hs : some (Sum.inl (nx, lo, .long (x.2 i.toNatClampNeg) :: r, h)) = some (.inl cf') := hs
      cases hs
      intro H locs ls hP hS hL
      subst hn
      obtain ⟨cell, h1, h2, h3, h4, h5⟩ := hP.1 a _ (ev_la_spec hxa)
      exact W.lald (v := .long (x.2 i.toNatClampNeg)) hx hb h1 h2 h3 (by rw [h4]; exact ev_in_not hq) (h5 _ (ev_in_spec hq).2) rfl rfl hd (kk H locs ls hP hS hL)
    · cases hs
  · cases hs
theorem ev_s_aald (X : ev_X p R s m args meth c D bs sa T d) (hd : decode T.1.2.2.1 pc = .ok (.aaload, 1)) (hn : nx = pc + 1)
    (hs : ev_aald nx lo sk h = some (.inl cf')) (kk : ev_G p l e R s m args below meth c D bs T c0 s0 Q cf') : ev_G p l e R s m args below meth c D bs T c0 s0 Q (pc, lo, sk, h) := by
  obtain ⟨hx, hb, -⟩ := X
  unfold ev_aald at hs
  split at hs
  · rename_i i a r
    split at hs
    · rename_i x hxa
      obtain ⟨hq, hs⟩ := ev_cond (y := some (Sum.inl cf')) hs
      have hs : some (Sum.inl (nx, lo, va_rf (x.2 i.toNatClampNeg) :: r, h)) = some (.inl cf') := hs
      cases hs
      intro H locs ls hP hS hL
      subst hn
      obtain ⟨⟨cell, h1, h2, h3, h4, h5⟩, -⟩ := hP.1 a _ (ev_ra_spec hxa)
      exact W.aald (v := va_rf (x.2 i.toNatClampNeg)) (ty := .object "EnclaveMonitor$Page") hx hb h1 h2 rfl h3 (by rw [h4]; exact ev_in_not hq) (h5 _ (ev_in_spec hq).2) rfl rfl hd (kk H locs ls hP hS hL)
    · cases hs
  · cases hs
theorem ev_s_iast (X : ev_X p R s m args meth c D bs sa T d) (hd : decode T.1.2.2.1 pc = .ok (.iastore, 1)) (hn : nx = pc + 1)
    (hs : ev_iast bs nx lo sk h = some (.inl cf')) (kk : ev_G p l e R s m args below meth c D bs T c0 s0 Q cf') : ev_G p l e R s m args below meth c D bs T c0 s0 Q (pc, lo, sk, h) := by
  obtain ⟨hx, hb, -⟩ := X
  unfold ev_iast at hs
  split at hs
  · rename_i w i a r
    split at hs
    · rename_i x hxa
      obtain ⟨hq, hs⟩ := ev_cond (y := some (Sum.inl cf')) hs
      rw [Bool.and_eq_true] at hq
      have hs : some (Sum.inl (nx, lo, r, ev_up h a (.inr (.inl (x.1, upd x.2 i.toNatClampNeg w))))) = some (.inl cf') := hs
      cases hs
      intro H locs ls hP hS hL
      subst hn
      obtain ⟨cell, h1, h2, h3, h4, h5⟩ := hP.1 a _ (ev_ia_spec hxa)
      refine W.iast hx hb h1 h2 h3 (by rw [h4]; exact ev_in_not hq.2) rfl rfl hd fun H1 e1 z oq => ?_
      refine kk H1 _ ls (hP.put z oq ?_) (hS.put z oq (Nat.le_of_ble_eq_true hq.1)) hL
      exact ev_AR.store h1 h2 h3 h4 h5 (ev_in_spec hq.2).2 e1 (fun k _ => by by_cases hk : k = i.toNatClampNeg <;> simp [upd, hk])
    · cases hs
  · cases hs
theorem ev_s_last (X : ev_X p R s m args meth c D bs sa T d) (hd : decode T.1.2.2.1 pc = .ok (.lastore, 1)) (hn : nx = pc + 1)
    (hs : ev_last bs nx lo sk h = some (.inl cf')) (kk : ev_G p l e R s m args below meth c D bs T c0 s0 Q cf') : ev_G p l e R s m args below meth c D bs T c0 s0 Q (pc, lo, sk, h) := by
  obtain ⟨hx, hb, -⟩ := X
  unfold ev_last at hs
  split at hs
  · rename_i w i a r
    split at hs
    · rename_i x hxa
      obtain ⟨hq, hs⟩ := ev_cond (y := some (Sum.inl cf')) hs
      rw [Bool.and_eq_true] at hq
      have hs : some (Sum.inl (nx, lo, r, ev_up h a (.inr (.inr (.inl (x.1, vp_updL x.2 i.toNatClampNeg w)))))) = some (.inl cf') := hs
      cases hs
      intro H locs ls hP hS hL
      subst hn
      obtain ⟨cell, h1, h2, h3, h4, h5⟩ := hP.1 a _ (ev_la_spec hxa)
      refine W.last hx hb h1 h2 h3 (by rw [h4]; exact ev_in_not hq.2) rfl rfl hd fun H1 e1 z oq => ?_
      refine kk H1 _ ls (hP.put z oq ?_) (hS.put z oq (Nat.le_of_ble_eq_true hq.1)) hL
      exact ev_AR.store h1 h2 h3 h4 h5 (ev_in_spec hq.2).2 e1 (fun k _ => by by_cases hk : k = i.toNatClampNeg <;> simp [vp_updL, hk])
    · cases hs
  · cases hs
theorem ev_s_aast (X : ev_X p R s m args meth c D bs sa T d) (hd : decode T.1.2.2.1 pc = .ok (.aastore, 1)) (hn : nx = pc + 1)
    (hs : ev_aast bs 1 nx lo sk h = some (.inl cf')) (kk : ev_G p l e R s m args below meth c D bs T c0 s0 Q cf') : ev_G p l e R s m args below meth c D bs T c0 s0 Q (pc, lo, sk, h) := by
  obtain ⟨hx, hb, -, -, -, -, -, -, hK, -⟩ := X
  unfold ev_aast at hs
  split at hs
  · rename_i i a r
    split at hs
    · rename_i x hxa
      obtain ⟨hq, hs⟩ := ev_cond (y := some (Sum.inl cf')) hs
      rw [Bool.and_eq_true] at hq
      have hs : some (Sum.inl (nx, lo, r, ev_up h a (.inr (.inr (.inr (x.1, va_up x.2 i.toNatClampNeg none)))))) = some (.inl cf') := hs
      cases hs
      intro H locs ls hP hS hL
      subst hn
      obtain ⟨⟨cell, h1, h2, h3, h4, h5⟩, ⟨cell', k, g1, g2, g3⟩⟩ := hP.1 a _ (ev_ra_spec hxa)
      cases h1.symm.trans g1
      refine va_WaastN hx hb h1 h2 h3 (by rw [h4]; exact ev_in_not hq.2) rfl rfl hd fun H1 e1 z oq => ?_
      refine kk H1 _ ls (hP.put z oq ⟨?_, ⟨_, k, e1, g2, g3⟩⟩) (hS.put z oq (Nat.le_of_ble_eq_true hq.1)) hL
      exact ev_AR.store h1 h2 h3 h4 h5 (ev_in_spec hq.2).2 e1 (fun k _ => by by_cases hk : k = i.toNatClampNeg <;> simp [va_up, hk, va_rf])
    · cases hs
  · rename_i b i a r
    split at hs
    · rename_i x fs hxa hfs
      obtain ⟨hq, hs⟩ := ev_cond (y := some (Sum.inl cf')) hs
      rw [Bool.and_eq_true] at hq
      have hs : some (Sum.inl (nx, lo, r, ev_up h a (.inr (.inr (.inr (x.1, va_up x.2 i.toNatClampNeg (some b))))))) = some (.inl cf') := hs
      cases hs
      intro H locs ls hP hS hL
      subst hn
      obtain ⟨⟨cell, h1, h2, h3, h4, h5⟩, ⟨cell', k, g1, g2, g3⟩⟩ := hP.1 a _ (ev_ra_spec hxa)
      cases h1.symm.trans g1
      obtain ⟨r', k1, k2, cv, k3, k4, k5, k6⟩ := hP.1 b _ (ev_obj_spec hfs)
      have hcls := (hK.1.1 1 _ (rfl : vwCl[1]? = some (RX1, TX1, 8))).2
      obtain ⟨kC, hkC, -⟩ := hcls.2
      refine W.aast (t := .object "EnclaveMonitor$Page") hx hb h1 h2.1 h3 g2 g3 rfl hkC ⟨(ev_in_spec hq.2).1, by rw [h4]; exact (ev_in_spec hq.2).2⟩ k3 (fun q z => by rw [k5] at z; cases z) (by rw [k4]; exact hkC) (by rw [k4]; exact va_assign hcls) rfl rfl hd fun H1 e1 z oq => ?_
      refine kk H1 _ ls (hP.put z oq ⟨?_, ⟨_, k, e1, g2, g3⟩⟩) (hS.put z oq (Nat.le_of_ble_eq_true hq.1)) hL
      exact ev_AR.store h1 h2 h3 h4 h5 (ev_in_spec hq.2).2 e1 (fun k _ => by by_cases hk : k = i.toNatClampNeg <;> simp [va_up, hk, va_rf])
    · cases hs
  · cases hs
theorem ev_s_alen (X : ev_X p R s m args meth c D bs sa T d) (hd : decode T.1.2.2.1 pc = .ok (.arraylength, 1)) (hn : nx = pc + 1)
    (hs : ev_alen nx lo sk h = some (.inl cf')) (kk : ev_G p l e R s m args below meth c D bs T c0 s0 Q cf') : ev_G p l e R s m args below meth c D bs T c0 s0 Q (pc, lo, sk, h) := by
  obtain ⟨hx, hb, -⟩ := X
  unfold ev_alen at hs
  split at hs
  · rename_i a r
    split at hs
    · rename_i n hna
      have hs : some (Sum.inl (nx, lo, .int (Int32.ofNat n) :: r, h)) = some (.inl cf') := hs
      cases hs
      intro H locs ls hP hS hL
      subst hn
      unfold ev_len at hna
      split at hna
      · rename_i x hxa; cases hna; obtain ⟨cell, h1, h2, h3, h4, h5⟩ := hP.1 a _ hxa
        exact W.alen hx hb h1 h2 (by rw [h4]) rfl rfl hd (kk H locs ls hP hS hL)
      · rename_i x hxa; cases hna; obtain ⟨cell, h1, h2, h3, h4, h5⟩ := hP.1 a _ hxa
        exact W.alen hx hb h1 h2 (by rw [h4]) rfl rfl hd (kk H locs ls hP hS hL)
      · rename_i x hxa; cases hna; obtain ⟨⟨cell, h1, h2, h3, h4, h5⟩, -⟩ := hP.1 a _ hxa
        exact W.alen hx hb h1 h2 (by rw [h4]) rfl rfl hd (kk H locs ls hP hS hL)
      · cases hna
    · cases hs
  · cases hs
end EVT
end
section
theorem ev_nat {z : Int32} (hz : ¬ z < 0) : z.toInt = (z.toNatClampNeg : Int) := by
  have hz0 : (0 : Int) ≤ z.toInt := by
    have := Int32.not_lt.mp hz
    simpa using Int32.le_iff_toInt_le.mp this
  show z.toInt = ((z.toInt.toNat : Nat) : Int)
  omega
theorem ev_nfw : nativeFrameWords "java/lang/System" "arraycopy" 5 ≤ 21 := by decide +kernel
theorem ev_cnew {h h' : e_H} {o : e_O} {n z : Nat} (hn : ev_new h o n = some (z, h')) : ev_cn h' = ev_cn h + 1 ∧ ev_sn h' = ev_sn h + n := by
  unfold ev_new at hn
  split at hn
  · rename_i w u hw
    simp only [Option.some.injEq, Prod.mk.injEq] at hn
    obtain ⟨rfl, rfl⟩ := hn
    exact ⟨by simp [ev_cn, hw], by simp [ev_sn, hw]⟩
  · cases hn
section EVU
variable {p : Program} {l : Launch} {e : Env} {R : Room} {s : State} {m : MethodId} {args : Array Value} {below : List Frame} {meth : Method} {c : Code} {D : va_G} {bs : Nat} {sa : Nat → Nat} {T : e_M} {d c0 s0 : Nat} {Q : State → Prop} {tb : Nat → Option e_M}
variable {pc nx x1 x2 : Nat} {v : Value} {ts : List Nat} {lo : e_L} {sk : List Value} {h : e_H} {cf' : e_C}
theorem ev_s_new {idx : Nat} (X : ev_X p R s m args meth c D bs sa T d) (hd : decode T.1.2.2.1 pc = .ok (.new idx, 3)) (hn : nx = pc + 3) (hc : c0 ≤ ev_cn h) (hs0 : s0 ≤ ev_sn h) (hcap : ev_cn cf'.2.2.2 - c0 ≤ R.cells ∧ ev_sn cf'.2.2.2 - s0 ≤ R.slots)
    (hW : ∃ (r : vw_C) (ty : Nat → FieldType), vwCl[x1]? = some r ∧ (∀ w ∈ u_ws r.1 r.2.1 r.2.2, w ∈ ev_GW) ∧ x2 = r.2.2 ∧ (∀ k, k < r.2.2 → parseFieldDescriptor (r.2.1 k).2.2.1 = some (ty k)) ∧ Cond.classLink T.1.1 idx r.1 ∈ ev_GW ∧ Cond.instantiable r.1 r.2.2 ∈ ev_GW ∧ Cond.initialized r.1 ∈ ev_GW ∧ ts.length = r.2.2 ∧ ∀ j, j < r.2.2 → defaultValue (ty j) = vp_V (ts.map ev_z) j)
    (hs : ev_nob (.inl (x1, ts.map ev_z)) x2 nx lo sk h = some (.inl cf')) (kk : ev_G p l e R s m args below meth c D bs T c0 s0 Q cf') : ev_G p l e R s m args below meth c D bs T c0 s0 Q (pc, lo, sk, h) := by
  obtain ⟨hx, hb, -, -, hown, -, -, hts, hK, -⟩ := X
  obtain ⟨⟨C, Tc, N⟩, ty, hr, hin, hk, hty, hl1, hl2, hl3, hlen, hdef⟩ := hW
  dsimp only at hin hk hty hl1 hl2 hl3 hlen hdef
  unfold ev_nob at hs
  split at hs
  · rename_i z h' hz
    have hs : some (Sum.inl (nx, lo, .ref z :: sk, h')) = some (.inl cf') := hs
    cases hs
    dsimp only at hcap
    intro H locs ls hP hS hL
    subst hn
    subst hk
    have hKn := hK.1.1 x1 _ hr
    obtain ⟨e1, e2⟩ := ev_cnew hz
    refine W.newcK hx hb hown (hts _ hl1) (hts _ hl2) (hts _ hl3) rfl hd (by dsimp only; omega) (by dsimp only; omega) hKn.2.1 rfl fun H1 kC hkC f1 z1 o1 => ?_
    have hob := (u_born ty hts hin hKn hkC f1 hty).to hdef
    obtain ⟨rfl, hP', -⟩ := hP.new hz z1 o1 ⟨(C, Tc, x2), hr, by simpa using hlen, hob⟩
    have hS' : va_S (fun q => bs ≤ q) s.heap H1 locs := ⟨by have := hS.1; omega, fun q q1 q2 => (o1 q (Nat.lt_of_lt_of_le q1 hS.1)).trans (hS.2.1 q q1 q2), hS.2.2⟩
    exact W.cs (by dsimp only; omega) (by dsimp only; omega) (kk H1 locs ls hP' hS' hL)
  · cases hs
theorem ev_s_newa {at_ : ArrayType} {o : Nat → e_O} {ty : FieldType} (X : ev_X p R s m args meth c D bs sa T d) (hd : decode T.1.2.2.1 pc = .ok (.newarray at_, 2)) (hn : nx = pc + 2) (hc : c0 ≤ ev_cn h) (hs0 : s0 ≤ ev_sn h) (hcap : ev_cn cf'.2.2.2 - c0 ≤ R.cells ∧ ev_sn cf'.2.2.2 - s0 ≤ R.slots)
    (hty : newarray.typeOf at_ = ty) (hw : Cond.arrayClass ty ∈ ev_GW) (hcb : componentBytes ty ≤ 8) (hcr : ∀ (a n : Nat) (H : Heap), ev_AR s a ty n (fun _ => defaultValue ty) H → ev_CR D s a (o n) H)
    (hs : ev_newa o nx lo sk h = some (.inl cf')) (kk : ev_G p l e R s m args below meth c D bs T c0 s0 Q cf') : ev_G p l e R s m args below meth c D bs T c0 s0 Q (pc, lo, sk, h) := by
  obtain ⟨hx, hb, -, -, hown, -, -, hts, hK, -⟩ := X
  subst hty
  unfold ev_newa at hs
  split at hs
  · rename_i n r
    obtain ⟨hq, hs⟩ := ev_cond (y := some (Sum.inl cf')) hs
    rw [Bool.and_eq_true] at hq
    have hn0 : ¬ n < 0 := by simpa using hq.1
    have hn5 := Nat.le_of_ble_eq_true hq.2
    split at hs
    · rename_i z h' hz
      have hs : some (Sum.inl (nx, lo, .ref z :: r, h')) = some (.inl cf') := hs
      cases hs
      dsimp only at hcap
      intro H locs ls hP hS hL
      subst hn
      obtain ⟨e1, e2⟩ := ev_cnew hz
      refine W.newaK hx hb (hts _ hw) rfl hd rfl hn0 rfl (Nat.le_trans (Nat.mul_le_mul hn5 hcb) (by decide)) (by dsimp only; omega) (by dsimp only; omega) rfl fun H1 cA f1 z1 o1 hA => ?_
      obtain ⟨rfl, hP', -⟩ := hP.new hz z1 o1 (hcr _ _ _ ⟨_, f1, hA _ _, (fun q => by cases q), arrV_size _ _ _, fun j hj => arrV_read _ _ hj⟩)
      have hS' : va_S (fun q => bs ≤ q) s.heap H1 locs := ⟨by have := hS.1; omega, fun q q1 q2 => (o1 q (Nat.lt_of_lt_of_le q1 hS.1)).trans (hS.2.1 q q1 q2), hS.2.2⟩
      exact W.cs (by dsimp only; omega) (by dsimp only; omega) (kk H1 locs ls hP' hS' hL)
    · cases hs
  · cases hs
theorem ev_s_anew {idx : Nat} (X : ev_X p R s m args meth c D bs sa T d) (hd : decode T.1.2.2.1 pc = .ok (.anewarray idx, 3)) (hn : nx = pc + 3) (hc : c0 ≤ ev_cn h) (hs0 : s0 ≤ ev_sn h) (hcap : ev_cn cf'.2.2.2 - c0 ≤ R.cells ∧ ev_sn cf'.2.2.2 - s0 ≤ R.slots)
    (hW : Cond.classLink T.1.1 idx "EnclaveMonitor$Page" ∈ ev_GW)
    (hs : ev_newa (fun n => .inr (.inr (.inr (n, fun _ => none)))) nx lo sk h = some (.inl cf')) (kk : ev_G p l e R s m args below meth c D bs T c0 s0 Q cf') : ev_G p l e R s m args below meth c D bs T c0 s0 Q (pc, lo, sk, h) := by
  obtain ⟨hx, hb, -, -, hown, -, -, hts, hK, -⟩ := X
  unfold ev_newa at hs
  split at hs
  · rename_i n r
    obtain ⟨hq, hs⟩ := ev_cond (y := some (Sum.inl cf')) hs
    rw [Bool.and_eq_true] at hq
    have hn0 : ¬ n < 0 := by simpa using hq.1
    have hn5 := Nat.le_of_ble_eq_true hq.2
    split at hs
    · rename_i z h' hz
      have hs : some (Sum.inl (nx, lo, .ref z :: r, h')) = some (.inl cf') := hs
      cases hs
      dsimp only at hcap
      intro H locs ls hP hS hL
      subst hn
      obtain ⟨e1, e2⟩ := ev_cnew hz
      refine W.anew hx hb hown (hts _ hW) (va_AO.use hK.2.2.2) rfl hd rfl hn0 (by omega) (by dsimp only; omega) (by dsimp only; omega) fun cA kA comp f1 f2 f3 f4 => ?_
      have hcomp : comp = D.1 1 := Option.some.inj (f4.symm.trans (hK.1.1 1 _ (rfl : vwCl[1]? = some (RX1, TX1, 8))).2.1)
      subst hcomp
      generalize hH1 : H.push ({ cls := cA, slots := Array.replicate n.toNatClampNeg .null, vm := .none } : Cell) = H1
      have z1 : H1.size = H.size + 1 := by rw [← hH1, Array.size_push]
      have g1 : H1[H.size]? = some (arrV cA n.toNatClampNeg (fun _ => .null)) := by rw [← hH1, Array.getElem?_push_size, ← arrV_new]
      have o1 : ∀ q : Nat, q < H.size → H1[q]? = H[q]? := fun q hq => by rw [← hH1, Array.getElem?_push, if_neg (Nat.ne_of_lt hq)]
      obtain ⟨rfl, hP', -⟩ := hP.new hz z1 o1 ⟨⟨_, g1, ⟨(fun q q2 => by cases q2), kA, f2, _, f3⟩, (fun q => by cases q), arrV_size _ _ _, fun j hj => arrV_read _ _ hj⟩, ⟨_, kA, g1, f2, f3⟩⟩
      have hS' : va_S (fun q => bs ≤ q) s.heap H1 locs := ⟨by have := hS.1; omega, fun q q1 q2 => (o1 q (Nat.lt_of_lt_of_le q1 hS.1)).trans (hS.2.1 q q1 q2), hS.2.2⟩
      exact W.cs (by dsimp only; omega) (by dsimp only; omega) (kk H1 locs ls hP' hS' hL)
    · cases hs
  · cases hs
theorem ev_s_cpy {idx : Nat} (X : ev_X p R s m args meth c D bs sa T d) (hGl : ev_glob) (hd : decode T.1.2.2.1 pc = .ok (.invokestatic idx, 3)) (hn : nx = pc + 3)
    (hW : Cond.methodLink T.1.1 idx arraycopyName ∈ ev_GW)
    (hs : ev_cpy bs nx lo sk h = some (.inl cf')) (kk : ev_G p l e R s m args below meth c D bs T c0 s0 Q cf') : ev_G p l e R s m args below meth c D bs T c0 s0 Q (pc, lo, sk, h) := by
  obtain ⟨hx, hb, hml, -, hown, -, -, hts, hK, hRf, hRl, -⟩ := X
  unfold ev_cpy at hs
  split at hs
  · rename_i n dp a sp a0 r
    split at hs
    · rename_i x y hxa hya
      obtain ⟨hq, hs⟩ := ev_cond (y := some (Sum.inl cf')) hs
      simp only [Bool.and_eq_true, decide_eq_true_eq] at hq
      obtain ⟨q0, q1, h1, h2, h3, h4, h5⟩ := hq
      have hba := Nat.le_of_ble_eq_true q0
      have hsum := Nat.le_of_ble_eq_true q1
      have h4 := Nat.le_of_ble_eq_true h4
      have h5 := Nat.le_of_ble_eq_true h5
      have hs : some (Sum.inl (nx, lo, r, ev_up h a (.inr (.inl (y.1, va_cpy x.2 y.2 sp.toNatClampNeg dp.toNatClampNeg n.toNatClampNeg))))) = some (.inl cf') := hs
      cases hs
      intro H locs ls hP hS hL
      subst hn
      obtain ⟨cs, c1, c2, c3, c4, c5⟩ := hP.1 a0 _ (ev_ia_spec hxa)
      obtain ⟨cd, d1, d2, d3, d4, d5⟩ := hP.1 a _ (ev_ia_spec hya)
      dsimp only at c5 d5 c4 d4
      obtain ⟨k0, hk0, cm0, hkk0⟩ := c2.2
      obtain ⟨k1, hk1, cm1, hkk1⟩ := d2.2
      have hget : ∀ i, i < n.toNatClampNeg → cs.slots.getD (sp.toNatClampNeg + i) .null = .int (x.2 (sp.toNatClampNeg + i)) := by
        intro i hi
        rw [Array.getD_eq_getD_getElem?, c5 _ (by omega)]
        rfl
      intro S0 hS0 X0
      have hsz : ls.size = c.maxLocals := by rw [hml]; exact hL.2.1
      obtain ⟨vm', X', step⟩ := X0.arraycopy hx hown (hts _ hW) (hts _ hGl.1) (hts _ hGl.2.1) (hts _ hGl.2.2.1) (src := a0) (dst := a) (cs := cs) (cd := cd) (srcPos := sp) (destPos := dp) (n := n) (by rw [hS0]; exact c1) (by rw [hS0]; exact d1)
        c2.1 d2.1 c3 d3 hk0 hk1 hkk0 hkk1 (by simp [refKind]) h1 h2 h3
        (by rw [ev_nat h1, ev_nat h3, c4]; omega)
        (by rw [ev_nat h2, ev_nat h3, d4]; omega)
        (fun vm₁ _ i hi => by
          rw [hget i hi]
          exact ⟨rfl, trivial⟩)
        (g := F0 m pc ls (.int n :: .int dp :: .ref a :: .int sp :: .ref a0 :: r)) rfl hsz (rest := r) rfl (by rw [hb]; exact hd) (by omega) (by have := ev_nfw; unfold ev_sum at hsum; show 2 * 0 + _ + _ ≤ _; omega)
      have hcp : copied cs cd sp dp n = cd.storeRun dp.toNatClampNeg (cs.stretch sp.toNatClampNeg n.toNatClampNeg) := rfl
      obtain ⟨f1, f2, f3, -, -⟩ := cd.storeRun_facts dp.toNatClampNeg (cs.stretch sp.toNatClampNeg n.toNatClampNeg)
      have hlen : (cs.stretch sp.toNatClampNeg n.toNatClampNeg).length = n.toNatClampNeg := by simp [Cell.stretch]
      have hl : a < H.size := (Array.getElem?_eq_some_iff.mp d1).1
      generalize hcc : copied cs cd sp dp n = cc at X' step
      rw [hcc] at hcp
      have hheap : ((S0.setVm vm').setCell a cc).heap = H.setIfInBounds a cc := by rw [← hS0]; rfl
      have oq : ∀ q : Nat, q ≠ a → (H.setIfInBounds a cc)[q]? = H[q]? := fun q hq => by simp [Array.getElem?_setIfInBounds, Ne.symm hq]
      have z1 : (H.setIfInBounds a cc).size = H.size := by simp
      have hA : ev_AR s a .int y.1 (fun j => .int (va_cpy x.2 y.2 sp.toNatClampNeg dp.toNatClampNeg n.toNatClampNeg j)) (H.setIfInBounds a cc) := by
        refine ⟨cc, by simp [Array.getElem?_setIfInBounds, hl], ?_, by rw [hcp, f2]; exact d3, by rw [hcp, f3, d4], fun j hj => ?_⟩
        · exact ⟨fun k => by rw [hcp, f2]; exact d2.1 k, k1, by rw [hcp, f1]; exact hk1, cm1, hkk1⟩
        · rw [hcp, Cell.storeRun_get _ _ _ _ (by rw [hlen, d4]; exact h5), hlen]
          by_cases hin : dp.toNatClampNeg ≤ j ∧ j < dp.toNatClampNeg + n.toNatClampNeg
          · rw [if_pos hin]
            simp only [Cell.stretch, List.getElem?_map]
            rw [List.getElem?_range (by omega)]
            show some (cs.slots.getD (sp.toNatClampNeg + (j - dp.toNatClampNeg)) .null) = _
            rw [hget _ (by omega)]
            simp [va_cpy, hin]
          · rw [if_neg hin, d5 j hj]
            simp [va_cpy, hin]
      obtain ⟨t, a1, b1⟩ := kk _ (locs ++ (cs.stretch sp.toNatClampNeg n.toNatClampNeg).zipIdx.map fun q => ⟨a, dp.toNatClampNeg + q.2⟩) ls (hP.put z1 oq hA) ⟨by rw [z1]; exact hS.1, fun q g1 g2 => by
          rw [oq q (fun e => g2 (by rw [e]; exact hba))]
          exact hS.2.1 q g1 g2, fun q hq => by
          rcases List.mem_append.mp hq with h | h
          · exact hS.2.2 q h
          · obtain ⟨z, -, hz⟩ := List.mem_map.mp h
            rw [← hz]
            exact hba⟩ hL _ hheap X'
      exact ⟨t, step t a1, b1⟩
    · cases hs
  · cases hs
end EVU
end
section
section EVV
variable {p : Program} {l : Launch} {e : Env} {R : Room} {s : State} {m : MethodId} {args : Array Value} {below : List Frame} {meth : Method} {c : Code} {D : va_G} {bs : Nat} {sa : Nat → Nat} {T : e_M} {d c0 s0 : Nat} {Q : State → Prop} {tb : Nat → Option e_M}
variable {pc nx x1 x2 : Nat} {v : Value} {ts : List Nat} {lo : e_L} {sk : List Value} {h : e_H} {cf' : e_C}
theorem ev_s_tsw {df lo0 hi0 : Int} {offs : Array Int} {len : Nat} {x : Int32} {r : List Value} (X : ev_X p R s m args meth c D bs sa T d) (hd : decode T.1.2.2.1 pc = .ok (.tableswitch df lo0 hi0 offs, len)) (h1 : lo0 = 0) (h2 : hi0 + 1 = (offs.size : Int)) (h3 : ts.map (fun t : Nat => (t : Int) - (pc : Int)) = df :: offs.toList)
    (kk : ev_G p l e R s m args below meth c D bs T c0 s0 Q (ev_tsw ts x, lo, r, h)) : ev_G p l e R s m args below meth c D bs T c0 s0 Q (pc, lo, .int x :: r, h) := by
  obtain ⟨hx, hb, -⟩ := X
  subst h1
  intro H locs ls hP hS hL
  have kk := kk H locs ls hP hS hL
  match ts, h3, kk with
  | t0 :: tg, h3, kk =>
    simp only [List.map_cons, List.cons.injEq] at h3
    obtain ⟨h3, h4⟩ := h3
    have hlen : tg.length = offs.size := by
      have := congrArg List.length h4
      simpa using this
    dsimp only [ev_tsw] at kk
    by_cases hin : 0 ≤ x.toInt ∧ x.toInt < (tg.length : Int)
    · rw [if_pos hin] at kk
      have hk : x.toInt.toNat < tg.length := by omega
      have hg : tg[x.toInt.toNat]? = some (tg.getD x.toInt.toNat t0) := by
        rw [List.getD_eq_getElem?_getD, List.getElem?_eq_getElem hk]; rfl
      have ho : offs[(x.toInt - 0).toNat]? = some ((tg.getD x.toInt.toNat t0 : Int) - (pc : Int)) := by
        rw [show x.toInt - 0 = x.toInt by omega, ← Array.getElem?_toList, ← h4, List.getElem?_map, hg]; rfl
      exact lv_tableIn hx hb hd (by omega) (by omega) ho (by omega) kk
    · rw [if_neg hin] at kk
      exact lv_tableOut hx hb hd (by omega) (by omega) kk
set_option maxHeartbeats 4000000 in
set_option maxRecDepth 100000 in
theorem ev_step {cf : e_C} (X : ev_X p R s m args meth c D bs sa T d) (hGl : ev_glob) (hok : ev_ok tb T) (hs : ev_stp bs sa T cf = some (.inl cf')) (hc : c0 ≤ ev_cn cf.2.2.2) (hs0 : s0 ≤ ev_sn cf.2.2.2) (hcap : ev_cn cf'.2.2.2 - c0 ≤ R.cells ∧ ev_sn cf'.2.2.2 - s0 ≤ R.slots)
    (kk : ev_G p l e R s m args below meth c D bs T c0 s0 Q cf') : ev_G p l e R s m args below meth c D bs T c0 s0 Q cf := by
  obtain ⟨pc, lo, sk, h⟩ := cf
  unfold ev_stp at hs
  dsimp only at hs hc hs0
  split at hs
  · rename_i i nx x1 x2 v ts hf
    obtain ⟨hB, hW⟩ := hok.2.2 _ (ev_fnd_mem _ _ _ hf)
    dsimp only at hB hW
    simp only [ev_okB, Bool.and_eq_true, Bool.or_eq_true, decide_eq_true_eq] at hB
    obtain ⟨hd0, hlt, hln, hcc⟩ := hB
    have hd2 : ev_ln i ≠ 0 → decode T.1.2.2.1 pc = .ok (i, ev_ln i) ∧ nx = pc + ev_ln i := by
      intro hne
      rcases hln with q | q
      · exact absurd q hne
      · refine ⟨?_, q⟩
        rw [hd0, q]
        congr 2
        omega
    have X' := X
    obtain ⟨hx, hb, hml, hret, hown, hnm, hlk, hts, hK, hRf, hRl, hbs⟩ := X'
    have go : ∀ {nx9 : Nat} {lo9 : e_L} {sk9 : List Value} {h9 : e_H}, ev_go nx9 lo9 sk9 h9 = some (.inl cf') → cf' = (nx9, lo9, sk9, h9) := by
      intro nx9 lo9 sk9 h9 q
      have q : some (Sum.inl (nx9, lo9, sk9, h9)) = some (Sum.inl cf') := q
      cases q; rfl
    unfold ev_ins at hs
    split at hs
    · obtain ⟨hd, rfl⟩ := hd2 (Nat.succ_ne_zero _); have := go hs; subst this; simp only [ev_okc, decide_eq_true_eq] at hcc; subst hcc; exact fun H locs ls hP hS hL => lv_iconst hx hb hd rfl (kk H locs ls hP hS hL)
    · obtain ⟨hd, rfl⟩ := hd2 (Nat.succ_ne_zero _); have := go hs; subst this; simp only [ev_okc, decide_eq_true_eq] at hcc; subst hcc; exact fun H locs ls hP hS hL => lv_bipush hx hb hd rfl (kk H locs ls hP hS hL)
    · obtain ⟨hd, rfl⟩ := hd2 (Nat.succ_ne_zero _); have := go hs; subst this; simp only [ev_okc, decide_eq_true_eq] at hcc; subst hcc; exact fun H locs ls hP hS hL => lv_sipush hx hb hd rfl (kk H locs ls hP hS hL)
    · obtain ⟨hd, rfl⟩ := hd2 (Nat.succ_ne_zero _); have := go hs; subst this; simp only [ev_okc, decide_eq_true_eq] at hcc; subst hcc; exact fun H locs ls hP hS hL => lv_lconst hx hb hd rfl (kk H locs ls hP hS hL)
    · obtain ⟨hd, rfl⟩ := hd2 (Nat.succ_ne_zero _); have := go hs; subst this; obtain ⟨z, rfl, hw⟩ := hW; exact fun H locs ls hP hS hL => lv_ldc hx hb hown (hts _ hw) hd (kk H locs ls hP hS hL)
    · obtain ⟨hd, rfl⟩ := hd2 (Nat.succ_ne_zero _); have := go hs; subst this; obtain ⟨z, rfl, hw⟩ := hW; exact fun H locs ls hP hS hL => lv_ldc2 hx hb hown (hts _ hw) hd (kk H locs ls hP hS hL)
    · obtain ⟨hd, rfl⟩ := hd2 (Nat.succ_ne_zero _); have := go hs; subst this; exact fun H locs ls hP hS hL => lv_null hx hb hd (kk H locs ls hP hS hL)
    · obtain ⟨hd, hn⟩ := hd2 (Nat.succ_ne_zero _); simp only [ev_okc, decide_eq_true_eq] at hcc; exact ev_s_load X hd hn (Or.inl ⟨rfl, Or.inr ⟨_, rfl, hcc⟩⟩) hs kk
    · obtain ⟨hd, hn⟩ := hd2 (Nat.succ_ne_zero _); simp only [ev_okc, decide_eq_true_eq] at hcc; exact ev_s_load X hd hn (Or.inl ⟨rfl, Or.inl (by rw [hcc])⟩) hs kk
    · obtain ⟨hd, hn⟩ := hd2 (Nat.succ_ne_zero _); simp only [ev_okc, decide_eq_true_eq] at hcc; exact ev_s_load X hd hn (Or.inr (Or.inl ⟨rfl, Or.inr ⟨_, rfl, hcc⟩⟩)) hs kk
    · obtain ⟨hd, hn⟩ := hd2 (Nat.succ_ne_zero _); simp only [ev_okc, decide_eq_true_eq] at hcc; exact ev_s_load X hd hn (Or.inr (Or.inl ⟨rfl, Or.inl (by rw [hcc])⟩)) hs kk
    · obtain ⟨hd, hn⟩ := hd2 (Nat.succ_ne_zero _); simp only [ev_okc, decide_eq_true_eq] at hcc; exact ev_s_load X hd hn (Or.inr (Or.inr ⟨rfl, Or.inr ⟨_, rfl, hcc⟩⟩)) hs kk
    · obtain ⟨hd, hn⟩ := hd2 (Nat.succ_ne_zero _); simp only [ev_okc, decide_eq_true_eq] at hcc; exact ev_s_load X hd hn (Or.inr (Or.inr ⟨rfl, Or.inl (by rw [hcc])⟩)) hs kk
    · obtain ⟨hd, hn⟩ := hd2 (Nat.succ_ne_zero _); simp only [ev_okc, decide_eq_true_eq] at hcc; exact ev_s_store X hd hn (Or.inl ⟨rfl, Or.inr ⟨_, rfl, hcc⟩⟩) hs kk
    · obtain ⟨hd, hn⟩ := hd2 (Nat.succ_ne_zero _); simp only [ev_okc, decide_eq_true_eq] at hcc; exact ev_s_store X hd hn (Or.inl ⟨rfl, Or.inl (by rw [hcc])⟩) hs kk
    · obtain ⟨hd, hn⟩ := hd2 (Nat.succ_ne_zero _); simp only [ev_okc, decide_eq_true_eq] at hcc; exact ev_s_storeL X hd hn (Or.inr ⟨_, rfl, hcc⟩) hs kk
    · obtain ⟨hd, hn⟩ := hd2 (Nat.succ_ne_zero _); simp only [ev_okc, decide_eq_true_eq] at hcc; exact ev_s_storeL X hd hn (Or.inl (by rw [hcc])) hs kk
    · obtain ⟨hd, hn⟩ := hd2 (Nat.succ_ne_zero _); simp only [ev_okc, decide_eq_true_eq] at hcc; exact ev_s_store X hd hn (Or.inr ⟨rfl, Or.inr ⟨_, rfl, hcc⟩⟩) hs kk
    · obtain ⟨hd, hn⟩ := hd2 (Nat.succ_ne_zero _); simp only [ev_okc, decide_eq_true_eq] at hcc; exact ev_s_store X hd hn (Or.inr ⟨rfl, Or.inl (by rw [hcc])⟩) hs kk
    · obtain ⟨hd, hn⟩ := hd2 (Nat.succ_ne_zero _); simp only [ev_okc, Bool.and_eq_true, decide_eq_true_eq] at hcc; obtain ⟨rfl, hv⟩ := hcc; exact ev_s_inc X hd hn hv hs kk
    · obtain ⟨hd, rfl⟩ := hd2 (Nat.succ_ne_zero _); unfold ev_bin at hs; split at hs
      · have := go hs; subst this; exact fun H locs ls hP hS hL => lv_iadd hx hb hd (kk H locs ls hP hS hL)
      · cases hs
    · obtain ⟨hd, rfl⟩ := hd2 (Nat.succ_ne_zero _); unfold ev_bin at hs; split at hs
      · have := go hs; subst this; exact fun H locs ls hP hS hL => lv_isub hx hb hd (kk H locs ls hP hS hL)
      · cases hs
    · obtain ⟨hd, rfl⟩ := hd2 (Nat.succ_ne_zero _); unfold ev_bin at hs; split at hs
      · have := go hs; subst this; exact fun H locs ls hP hS hL => lv_imul hx hb hd (kk H locs ls hP hS hL)
      · cases hs
    · obtain ⟨hd, rfl⟩ := hd2 (Nat.succ_ne_zero _); unfold ev_bin at hs; split at hs
      · have := go hs; subst this; exact fun H locs ls hP hS hL => lv_iand hx hb hd (kk H locs ls hP hS hL)
      · cases hs
    · obtain ⟨hd, rfl⟩ := hd2 (Nat.succ_ne_zero _); unfold ev_bin at hs; split at hs
      · have := go hs; subst this; exact fun H locs ls hP hS hL => lv_ior hx hb hd (kk H locs ls hP hS hL)
      · cases hs
    · obtain ⟨hd, rfl⟩ := hd2 (Nat.succ_ne_zero _); unfold ev_bin at hs; split at hs
      · have := go hs; subst this; exact fun H locs ls hP hS hL => lv_ixor hx hb hd (kk H locs ls hP hS hL)
      · cases hs
    · obtain ⟨hd, rfl⟩ := hd2 (Nat.succ_ne_zero _); unfold ev_bin at hs; split at hs
      · have := go hs; subst this; exact fun H locs ls hP hS hL => lv_ishl hx hb hd (kk H locs ls hP hS hL)
      · cases hs
    · obtain ⟨hd, rfl⟩ := hd2 (Nat.succ_ne_zero _); unfold ev_bin at hs; split at hs
      · have := go hs; subst this; exact fun H locs ls hP hS hL => lv_ishr hx hb hd (kk H locs ls hP hS hL)
      · cases hs
    · obtain ⟨hd, rfl⟩ := hd2 (Nat.succ_ne_zero _); unfold ev_bin at hs; split at hs
      · have := go hs; subst this; exact fun H locs ls hP hS hL => lv_iushr hx hb hd rfl (kk H locs ls hP hS hL)
      · cases hs
    · obtain ⟨hd, rfl⟩ := hd2 (Nat.succ_ne_zero _); unfold ev_div at hs; split at hs
      · rename_i y x r
        by_cases hy : y = 0
        · simp [hy] at hs
        · rw [decide_eq_false hy] at hs
          have := go hs; subst this; exact fun H locs ls hP hS hL => lv_idiv hx hb hd hy (kk H locs ls hP hS hL)
      · cases hs
    · obtain ⟨hd, rfl⟩ := hd2 (Nat.succ_ne_zero _); unfold ev_div at hs; split at hs
      · rename_i y x r
        by_cases hy : y = 0
        · simp [hy] at hs
        · rw [decide_eq_false hy] at hs
          have := go hs; subst this; exact fun H locs ls hP hS hL => lv_irem hx hb hd hy (kk H locs ls hP hS hL)
      · cases hs
    · obtain ⟨hd, rfl⟩ := hd2 (Nat.succ_ne_zero _); unfold ev_un at hs; split at hs
      · have := go hs; subst this; exact fun H locs ls hP hS hL => lv_ineg hx hb hd (kk H locs ls hP hS hL)
      · cases hs
    · obtain ⟨hd, rfl⟩ := hd2 (Nat.succ_ne_zero _); unfold ev_un at hs; split at hs
      · have := go hs; subst this; exact fun H locs ls hP hS hL => lv_i2l hx hb hd rfl (kk H locs ls hP hS hL)
      · cases hs
    · obtain ⟨hd, rfl⟩ := hd2 (Nat.succ_ne_zero _); unfold ev_un at hs; split at hs
      · have := go hs; subst this; exact fun H locs ls hP hS hL => lv_i2s hx hb hd rfl (kk H locs ls hP hS hL)
      · cases hs
    · obtain ⟨hd, rfl⟩ := hd2 (Nat.succ_ne_zero _); unfold ev_l2i at hs; split at hs
      · have := go hs; subst this; exact fun H locs ls hP hS hL => lv_l2i hx hb hd rfl (kk H locs ls hP hS hL)
      · cases hs
    · obtain ⟨hd, rfl⟩ := hd2 (Nat.succ_ne_zero _); unfold ev_binL at hs; split at hs
      · have := go hs; subst this; exact fun H locs ls hP hS hL => lv_ladd hx hb hd (kk H locs ls hP hS hL)
      · cases hs
    · obtain ⟨hd, rfl⟩ := hd2 (Nat.succ_ne_zero _); unfold ev_binL at hs; split at hs
      · have := go hs; subst this; exact fun H locs ls hP hS hL => lv_land hx hb hd (kk H locs ls hP hS hL)
      · cases hs
    · obtain ⟨hd, rfl⟩ := hd2 (Nat.succ_ne_zero _); unfold ev_binL at hs; split at hs
      · have := go hs; subst this; exact fun H locs ls hP hS hL => lv_lor hx hb hd (kk H locs ls hP hS hL)
      · cases hs
    · obtain ⟨hd, rfl⟩ := hd2 (Nat.succ_ne_zero _); unfold ev_binL at hs; split at hs
      · have := go hs; subst this; exact fun H locs ls hP hS hL => W.lcmp hx hb hd (kk H locs ls hP hS hL)
      · cases hs
    · obtain ⟨hd, rfl⟩ := hd2 (Nat.succ_ne_zero _); unfold ev_shL at hs; split at hs
      · have := go hs; subst this; exact fun H locs ls hP hS hL => lv_lshl hx hb hd rfl (kk H locs ls hP hS hL)
      · cases hs
    · obtain ⟨hd, rfl⟩ := hd2 (Nat.succ_ne_zero _); unfold ev_shL at hs; split at hs
      · have := go hs; subst this; exact fun H locs ls hP hS hL => lv_lshr hx hb hd rfl (kk H locs ls hP hS hL)
      · cases hs
    · obtain ⟨hd, rfl⟩ := hd2 (Nat.succ_ne_zero _); unfold ev_shL at hs; split at hs
      · have := go hs; subst this; exact fun H locs ls hP hS hL => lv_lushr hx hb hd rfl (kk H locs ls hP hS hL)
      · cases hs
    · obtain ⟨hd, rfl⟩ := hd2 (Nat.succ_ne_zero _); unfold ev_dup at hs; split at hs
      · obtain ⟨hq, hs⟩ := ev_cond (y := some (Sum.inl cf')) hs
        have := go hs; subst this; exact fun H locs ls hP hS hL => lv_dup hx hb hd (Nat.eq_of_beq_eq_true hq) (kk H locs ls hP hS hL)
      · cases hs
    · obtain ⟨hd, rfl⟩ := hd2 (Nat.succ_ne_zero _); unfold ev_dup2 at hs; split at hs
      · obtain ⟨hq, hs⟩ := ev_cond (y := some (Sum.inl cf')) hs
        rw [Bool.and_eq_true] at hq
        have := go hs; subst this; exact fun H locs ls hP hS hL => lv_dup2_11 hx hb hd (Nat.eq_of_beq_eq_true hq.1) (Nat.eq_of_beq_eq_true hq.2) (kk H locs ls hP hS hL)
      · cases hs
    · obtain ⟨hd, rfl⟩ := hd2 (Nat.succ_ne_zero _); unfold ev_icm at hs; split at hs
      · rename_i cnd off _ y x r
        simp only [ev_okc, decide_eq_true_eq] at hcc
        have := go hs; subst this
        intro H locs ls hP hS hL
        have kk := kk H locs ls hP hS hL
        cases cnd
        · exact lv_icmp_eq hx hb hd hcc (fun q => by rw [show ev_cmp .eq x y = true from decide_eq_true q] at kk; exact kk) (fun q => by rw [show ev_cmp .eq x y = false from decide_eq_false q] at kk; exact kk)
        · exact lv_icmp_ne hx hb hd hcc (fun q => by rw [show ev_cmp .ne x y = true from decide_eq_true q] at kk; exact kk) (fun q => by rw [show ev_cmp .ne x y = false from decide_eq_false (fun z => z q)] at kk; exact kk)
        · exact lv_icmp_lt hx hb hd hcc (fun q => by rw [show ev_cmp .lt x y = true from decide_eq_true q] at kk; exact kk) (fun q => by rw [show ev_cmp .lt x y = false from decide_eq_false q] at kk; exact kk)
        · exact lv_icmp_ge hx hb hd hcc (fun q => by rw [show ev_cmp .ge x y = true from decide_eq_true q] at kk; exact kk) (fun q => by rw [show ev_cmp .ge x y = false from decide_eq_false q] at kk; exact kk)
        · exact lv_icmp_gt hx hb hd hcc (fun q => by rw [show ev_cmp .gt x y = true from decide_eq_true q] at kk; exact kk) (fun q => by rw [show ev_cmp .gt x y = false from decide_eq_false q] at kk; exact kk)
        · exact lv_icmp_le hx hb hd hcc (fun q => by rw [show ev_cmp .le x y = true from decide_eq_true q] at kk; exact kk) (fun q => by rw [show ev_cmp .le x y = false from decide_eq_false q] at kk; exact kk)
      · cases hs
    · obtain ⟨hd, rfl⟩ := hd2 (Nat.succ_ne_zero _); unfold ev_ifc at hs; split at hs
      · rename_i cnd off _ x r
        simp only [ev_okc, decide_eq_true_eq] at hcc
        have := go hs; subst this
        intro H locs ls hP hS hL
        have kk := kk H locs ls hP hS hL
        cases cnd
        · exact lv_if_eq hx hb hd hcc (fun q => by rw [show ev_cmp .eq x 0 = true from decide_eq_true q] at kk; exact kk) (fun q => by rw [show ev_cmp .eq x 0 = false from decide_eq_false q] at kk; exact kk)
        · exact lv_if_ne hx hb hd hcc (fun q => by rw [show ev_cmp .ne x 0 = true from decide_eq_true q] at kk; exact kk) (fun q => by rw [show ev_cmp .ne x 0 = false from decide_eq_false (fun z => z q)] at kk; exact kk)
        · exact lv_if_lt hx hb hd hcc (fun q => by rw [show ev_cmp .lt x 0 = true from decide_eq_true q] at kk; exact kk) (fun q => by rw [show ev_cmp .lt x 0 = false from decide_eq_false q] at kk; exact kk)
        · exact lv_if_ge hx hb hd hcc (fun q => by rw [show ev_cmp .ge x 0 = true from decide_eq_true q] at kk; exact kk) (fun q => by rw [show ev_cmp .ge x 0 = false from decide_eq_false q] at kk; exact kk)
        · exact lv_if_gt hx hb hd hcc (fun q => by rw [show ev_cmp .gt x 0 = true from decide_eq_true q] at kk; exact kk) (fun q => by rw [show ev_cmp .gt x 0 = false from decide_eq_false q] at kk; exact kk)
        · exact lv_if_le hx hb hd hcc (fun q => by rw [show ev_cmp .le x 0 = true from decide_eq_true q] at kk; exact kk) (fun q => by rw [show ev_cmp .le x 0 = false from decide_eq_false q] at kk; exact kk)
      · cases hs
    · obtain ⟨hd, rfl⟩ := hd2 (Nat.succ_ne_zero _); simp only [ev_okc, decide_eq_true_eq] at hcc; unfold ev_ifn at hs; split at hs
      · have := go hs; subst this; exact fun H locs ls hP hS hL => lv_ifnullN hx hb hd hcc (kk H locs ls hP hS hL)
      · have := go hs; subst this; exact fun H locs ls hP hS hL => lv_ifnull hx hb hd (kk H locs ls hP hS hL)
      · cases hs
    · obtain ⟨hd, rfl⟩ := hd2 (Nat.succ_ne_zero _); simp only [ev_okc, decide_eq_true_eq] at hcc; unfold ev_ifn at hs; split at hs
      · have := go hs; subst this; exact fun H locs ls hP hS hL => lv_ifnonnullN hx hb hd (kk H locs ls hP hS hL)
      · have := go hs; subst this; exact fun H locs ls hP hS hL => lv_ifnonnull hx hb hd hcc (kk H locs ls hP hS hL)
      · cases hs
    · obtain ⟨hd, rfl⟩ := hd2 (Nat.succ_ne_zero _); simp only [ev_okc, decide_eq_true_eq] at hcc; have := go hs; subst this; exact fun H locs ls hP hS hL => lv_goto hx hb hd hcc (kk H locs ls hP hS hL)
    · unfold ev_tss at hs
      split at hs
      · simp only [ev_okc, Bool.and_eq_true, decide_eq_true_eq] at hcc
        have := go hs; subst this; exact ev_s_tsw X hd0 hcc.1 hcc.2.1 hcc.2.2 kk
      · cases hs
    · obtain ⟨hd, hn⟩ := hd2 (Nat.succ_ne_zero _); exact ev_s_get X hd hn hW hs kk
    · obtain ⟨hd, hn⟩ := hd2 (Nat.succ_ne_zero _); exact ev_s_put X hd hn hW hs kk
    · obtain ⟨hd, rfl⟩ := hd2 (Nat.succ_ne_zero _); have := go hs; subst this; obtain ⟨q, hq, hw⟩ := hW; exact fun H locs ls hP hS hL => va_gets hx hb (hK.2.1 _ q hq) hS hown (hts _ hw) (fun _ h9 => h9) hd (kk H locs ls hP hS hL)
    · obtain ⟨hd, hn⟩ := hd2 (Nat.succ_ne_zero _); exact ev_s_iald X hd hn hs kk
    · obtain ⟨hd, hn⟩ := hd2 (Nat.succ_ne_zero _); exact ev_s_iast X hd hn hs kk
    · obtain ⟨hd, hn⟩ := hd2 (Nat.succ_ne_zero _); exact ev_s_lald X hd hn hs kk
    · obtain ⟨hd, hn⟩ := hd2 (Nat.succ_ne_zero _); exact ev_s_last X hd hn hs kk
    · obtain ⟨hd, hn⟩ := hd2 (Nat.succ_ne_zero _); exact ev_s_aald X hd hn hs kk
    · obtain ⟨hd, hn⟩ := hd2 (Nat.succ_ne_zero _); exact ev_s_aast X hd hn hs kk
    · obtain ⟨hd, hn⟩ := hd2 (Nat.succ_ne_zero _); exact ev_s_alen X hd hn hs kk
    · obtain ⟨hd, hn⟩ := hd2 (Nat.succ_ne_zero _); exact ev_s_newa (ty := .int) (o := fun n => .inr (.inl (n, fun _ => 0))) X hd hn hc hs0 hcap rfl hGl.2.2.2.2.2.1 (by decide) (fun a n H q => q) hs kk
    · obtain ⟨hd, hn⟩ := hd2 (Nat.succ_ne_zero _); exact ev_s_newa (ty := .long) (o := fun n => .inr (.inr (.inl (n, fun _ => 0)))) X hd hn hc hs0 hcap rfl hGl.2.2.2.2.2.2 (by decide) (fun a n H q => q) hs kk
    · obtain ⟨hd, hn⟩ := hd2 (Nat.succ_ne_zero _); exact ev_s_anew X hd hn hc hs0 hcap hW hs kk
    · obtain ⟨hd, hn⟩ := hd2 (Nat.succ_ne_zero _); exact ev_s_new X hd hn hc hs0 hcap hW hs kk
    · obtain ⟨hd, hn⟩ := hd2 (Nat.succ_ne_zero _)
      dsimp only [ev_okW] at hW
      split at hs
      · rename_i h1001
        rw [if_pos h1001] at hW
        exact ev_s_cpy X hGl hd hn hW hs kk
      · unfold ev_callS at hs
        obtain ⟨-, hs⟩ := ev_cond (y := some (Sum.inl cf')) hs
        cases hs
    · obtain ⟨hd, rfl⟩ := hd2 (Nat.succ_ne_zero _)
      dsimp only [ev_okW] at hW
      split at hs
      · rename_i h1000
        rw [if_pos h1000] at hW
        unfold ev_oin at hs
        split at hs
        · obtain ⟨hq, hs⟩ := ev_cond (y := some (Sum.inl cf')) hs
          have hsum := Nat.le_of_ble_eq_true hq
          unfold ev_sum at hsum
          have := go hs; subst this
          exact fun H locs ls hP hS hL => W.objInit hx hb hown (hts _ hW) (hts _ hGl.2.2.2.1) (hts _ hGl.2.2.2.2.1) rfl (by rw [hml]; exact hL.2.1) rfl hd (by omega) (by show 2 * 0 + _ + 12 ≤ _; omega) (kk H locs ls hP hS hL)
        · cases hs
      · unfold ev_callI at hs
        split at hs
        · obtain ⟨-, hs⟩ := ev_cond (y := some (Sum.inl cf')) hs
          cases hs
        · cases hs
    · unfold ev_callV at hs
      split at hs
      · split at hs
        · obtain ⟨-, hs⟩ := ev_cond (y := some (Sum.inl cf')) hs
          cases hs
        · cases hs
      · cases hs
    · unfold ev_ret at hs
      split at hs
      · obtain ⟨-, hs⟩ := ev_cond (y := some (Sum.inl cf')) hs
        cases hs
      · cases hs
    · unfold ev_ret at hs
      split at hs
      · obtain ⟨-, hs⟩ := ev_cond (y := some (Sum.inl cf')) hs
        cases hs
      · cases hs
    · unfold ev_ret at hs
      split at hs
      · obtain ⟨-, hs⟩ := ev_cond (y := some (Sum.inl cf')) hs
        cases hs
      · cases hs
    · unfold ev_rtv at hs; split at hs <;> cases hs
    · cases hs
  · cases hs
end EVV
end
section
/-! Calls and ends; the evaluator's runs are contracts of the machine's methods. -/
def ev_ws (T : e_M) : List Cond := .code T.1.2.1 T.1.2.2.1 T.1.2.2.2.1 T.1.2.2.2.2 :: ev_GW
def ev_rm (d mc ms : Nat) : Room := { frames := d, cells := mc, slots := ms, locals := 40 * d }
def ev_Pc (D : va_G) (bs : Nat) (sa : Nat → Nat) (as : List Value) (h : e_H) : Array Value → State → Prop := va_Pc as (fun U => bs ≤ U.heap.size ∧ ev_P D U h U.heap ∧ ev_K D bs sa U)
def ev_Qc (D : va_G) (bs : Nat) (v : Option Value) (h' : e_H) : Array Value → State → Outcome → State → Prop := fun _ st o t => o = .returned v ∧ ev_P D t h' t.heap ∧ va_F (fun q => bs ≤ q) st t
def ev_Met (l : Launch) (D : va_G) (bs : Nat) (sa : Nat → Nat) (d : Nat) (T : e_M) (as : List Value) (h : e_H) (v : Option Value) (h' : e_H) : Prop :=
  Met l T.1.2.1 (ev_ws T) (ev_rm d (ev_cn h' - ev_cn h) (ev_sn h' - ev_sn h)) (ev_Pc D bs sa as h) (ev_Qc D bs v h') (ev_cn h' - ev_cn h) (ev_sn h' - ev_sn h) (fun q => bs ≤ q)
theorem ev_good {T : e_M} (h : Cond.code T.1.2.1 T.1.2.2.1 T.1.2.2.2.1 T.1.2.2.2.2 ∈ ev_GW) : GoodIn ev_GW (ev_ws T) := by
  intro w hw
  have hm : w ∈ ev_GW := by
    rcases List.mem_cons.mp hw with rfl | q
    · exact h
    · exact q
  exact ⟨hm, good_of_word (List.mem_filter.mp hm).2⟩
theorem ev_blind {D : va_G} {bs : Nat} {sa : Nat → Nat} {as : List Value} {h : e_H} : FrameBlind (ev_Pc D bs sa as h) := by
  intro a U g mk q
  obtain ⟨q0, q1, q2, q3⟩ := q
  exact ⟨q0, q1, ev_P.moved (u := U) (U := U.calling g mk a) (Vm.Alike.refl U.vm) q2, ev_K.blind (U := U) (V := U.calling g mk a) rfl rfl q3⟩
section EVC
variable {p : Program} {l : Launch} {e : Env} {R : Room} {s : State} {m : MethodId} {args : Array Value} {below : List Frame} {meth : Method} {c : Code} {D : va_G} {bs : Nat} {sa : Nat → Nat} {T : e_M} {d c0 s0 : Nat} {Q : State → Prop} {tb : Nat → Option e_M}
variable {pc nx x1 x2 : Nat} {v : Value} {ts : List Nat} {lo : e_L} {sk : List Value} {h h' : e_H}
theorem ev_pre {H : Heap} {locs : List Loc} {as : List Value} (X : ev_X p R s m args meth c D bs sa T d) (hP : ev_P D s h H) (hS : va_S (fun q => bs ≤ q) s.heap H locs) : ∀ U : State, U.heap = H → s.WarmedH U.vm → ev_Pc D bs sa as h as.toArray U := by
  obtain ⟨-, -, -, -, -, -, -, -, hK, -, -, hbs⟩ := X
  intro U hU hW
  exact ⟨rfl, by rw [hU]; exact Nat.le_trans hbs hS.1, by rw [hU]; exact ev_P.moved hW.alike hP, ev_K.warm hW hS hU hK⟩
theorem ev_back {H : Heap} {locs : List Loc} {ls : Array Slot} {r : List Value} {w : Option Value} {a9 : Array Value} (hc : c0 ≤ ev_cn h) (hs0 : s0 ≤ ev_sn h) (hmc : ev_cn h ≤ ev_cn h') (hms : ev_sn h ≤ ev_sn h')
    (hr : va_Run p l e R s m args below meth c H locs (ev_cn h - c0) (ev_sn h - s0) (ev_cn h' - ev_cn h) (ev_sn h' - ev_sn h) (F0 m pc ls sk) r (ev_Qc D bs w h' a9) (fun q => bs ≤ q)) (hS : va_S (fun q => bs ≤ q) s.heap H locs) (hL : ev_LR ls T.1.2.2.2.1 lo)
    (kk : ev_G p l e R s m args below meth c D bs T c0 s0 Q (pc + 3, lo, w.toList ++ r, h')) : W p l e R s m args below meth c H locs (ev_cn h - c0) (ev_sn h - s0) Q (F0 m pc ls sk) := by
  intro T0 hT X0
  obtain ⟨v1, st₀, t, T', L, h0, X', hL', e1, e2, ⟨hv, hP', hz, hk⟩, st⟩ := hr T0 hT X0
  cases hv
  rw [h0] at hz hk
  have hal : s.vm.Alike t.vm := by rw [← e2]; exact X'.warmed.alike
  have ec : ev_cn h - c0 + (ev_cn h' - ev_cn h) = ev_cn h' - c0 := by omega
  have es : ev_sn h - s0 + (ev_sn h' - ev_sn h) = ev_sn h' - s0 := by omega
  rw [ec, es] at X'
  obtain ⟨t2, a1, b1⟩ := kk T'.heap (locs ++ L) ls (by rw [e1]; exact ev_P.moved hal.symm hP')
    ⟨Nat.le_trans hS.1 (by rw [e1]; exact hz), fun q h1 h2 => by rw [e1, hk q (Nat.lt_of_lt_of_le h1 hS.1) h2]; exact hS.2.1 q h1 h2, fun q hq => by
      rcases List.mem_append.mp hq with h | h
      · exact hS.2.2 q h
      · exact hL' q h⟩ hL T' rfl X'
  exact ⟨t2, st t2 a1, b1⟩
theorem nc_go {nx : Nat} {x : Option Value ⊕ (Nat × List Value × Nat × e_L × List Value)} : ev_go nx lo sk h ≠ some (.inr x) := by
  intro q
  have q : (some (Sum.inl (nx, lo, sk, h)) : Option e_R) = some (Sum.inr x) := q
  cases q
theorem ev_inr {rt : Option FieldType} {i : Instr} {x : Option Value ⊕ (Nat × List Value × Nat × e_L × List Value)} (hs : ev_ins bs sa rt nx x1 x2 v ts lo sk h i = some (.inr x)) :
    (i = .ireturn ∧ ev_ret 0 rt sk = some (.inr x)) ∨ (i = .lreturn ∧ ev_ret 1 rt sk = some (.inr x)) ∨ (i = .areturn ∧ ev_ret 2 rt sk = some (.inr x)) ∨ (i = .return_ ∧ ev_rtv rt sk = some (.inr x)) ∨
    (∃ idx, i = .invokestatic idx ∧ x1 ≠ 1001 ∧ ev_callS x1 x2 nx lo sk = some (.inr x)) ∨ (∃ idx, i = .invokespecial idx ∧ x1 ≠ 1000 ∧ ev_callI x1 x2 nx lo sk = some (.inr x)) ∨ (∃ idx, i = .invokevirtual idx ∧ ev_callV x1 x2 nx ts lo sk h = some (.inr x)) := by
  have nc : ∀ {b : Bool} {nx : Nat} {lo : e_L} {sk : List Value} {h : e_H}, cond b (ev_go nx lo sk h) none ≠ some (.inr x) := fun q => nc_go (ev_cond (y := some (Sum.inr x)) q).2
  unfold ev_ins at hs
  split at hs
  all_goals first
    | exact absurd hs nc_go
    | (exfalso; unfold ev_load at hs; split at hs <;> first | exact nc_go hs | cases hs)
    | (exfalso; unfold ev_store at hs; split at hs <;> first | exact nc hs | cases hs)
    | (exfalso; unfold ev_inc at hs; split at hs <;> first | exact nc hs | cases hs)
    | (exfalso; unfold ev_storeL at hs; split at hs <;> first | exact nc hs | cases hs)
    | (exfalso; unfold ev_bin at hs; split at hs <;> first | exact nc_go hs | cases hs)
    | (exfalso; unfold ev_un at hs; split at hs <;> first | exact nc_go hs | cases hs)
    | (exfalso; unfold ev_binL at hs; split at hs <;> first | exact nc_go hs | cases hs)
    | (exfalso; unfold ev_shL at hs; split at hs <;> first | exact nc_go hs | cases hs)
    | (exfalso; unfold ev_l2i at hs; split at hs <;> first | exact nc_go hs | cases hs)
    | (exfalso; unfold ev_dup at hs; split at hs <;> first | exact nc hs | cases hs)
    | (exfalso; unfold ev_dup2 at hs; split at hs <;> first | exact nc hs | cases hs)
    | (exfalso; unfold ev_icm at hs; split at hs <;> first | exact nc_go hs | cases hs)
    | (exfalso; unfold ev_ifc at hs; split at hs <;> first | exact nc_go hs | cases hs)
    | (exfalso; unfold ev_ifn at hs; split at hs <;> first | exact nc_go hs | cases hs)
    | (exfalso; unfold ev_tss at hs; split at hs <;> first | exact nc_go hs | cases hs)
    | (exfalso; unfold ev_alen at hs; split at hs <;> first | cases hs | (split at hs <;> first | exact nc_go hs | cases hs))
    | (exfalso; unfold ev_iald at hs; split at hs <;> first | cases hs | (split at hs <;> first | exact nc hs | cases hs))
    | (exfalso; unfold ev_iast at hs; split at hs <;> first | cases hs | (split at hs <;> first | exact nc hs | cases hs))
    | (exfalso; unfold ev_lald at hs; split at hs <;> first | cases hs | (split at hs <;> first | exact nc hs | cases hs))
    | (exfalso; unfold ev_last at hs; split at hs <;> first | cases hs | (split at hs <;> first | exact nc hs | cases hs))
    | (exfalso; unfold ev_aald at hs; split at hs <;> first | cases hs | (split at hs <;> first | exact nc hs | cases hs))
    | (exfalso; unfold ev_aast at hs; split at hs <;> first | cases hs | (split at hs <;> first | exact nc hs | cases hs))
    | (exfalso; unfold ev_put at hs; split at hs <;> first | cases hs | (split at hs <;> first | exact nc hs | cases hs))
    | (exfalso; unfold ev_get at hs; split at hs <;> first | cases hs | (split at hs <;> first | cases hs | (split at hs <;> first | exact nc_go hs | cases hs)))
    | (exfalso; unfold ev_nob at hs; split at hs <;> first | exact nc_go hs | cases hs)
    | (exfalso; unfold ev_newa at hs; split at hs <;> first | cases hs | (have hs := (ev_cond (y := some (Sum.inr x)) hs).2; split at hs <;> first | exact nc_go hs | cases hs))
    | (exfalso; unfold ev_div at hs; split at hs <;> first | cases hs | (cases hq : decide (_ = (0 : Int32)) <;> rw [hq] at hs <;> first | exact nc_go hs | cases hs))
    | (exact Or.inl ⟨rfl, hs⟩)
    | (exact Or.inr (Or.inl ⟨rfl, hs⟩))
    | (exact Or.inr (Or.inr (Or.inl ⟨rfl, hs⟩)))
    | (exact Or.inr (Or.inr (Or.inr (Or.inl ⟨rfl, hs⟩))))
    | (exact Or.inr (Or.inr (Or.inr (Or.inr (Or.inr (Or.inr ⟨_, rfl, hs⟩))))))
    | (split at hs <;> first
        | (exfalso; unfold ev_cpy at hs; split at hs <;> first | cases hs | (split at hs <;> first | exact nc hs | cases hs))
        | (exfalso; unfold ev_oin at hs; split at hs <;> first | exact nc hs | cases hs)
        | exact Or.inr (Or.inr (Or.inr (Or.inr (Or.inl ⟨_, rfl, by assumption, hs⟩))))
        | exact Or.inr (Or.inr (Or.inr (Or.inr (Or.inr (Or.inl ⟨_, rfl, by assumption, hs⟩))))))
    | cases hs
/-- a call, by the callee's contract -/
theorem ev_call {cf : e_C} {y : Nat} {as r : List Value} {w : Option Value} (X : ev_X p R s m args meth c D bs sa T d) (hok : ev_ok tb T) (hs : ev_stp bs sa T cf = some (.inr (.inr (y, as, nx, lo, r)))) (hc : c0 ≤ ev_cn cf.2.2.2) (hs0 : s0 ≤ ev_sn cf.2.2.2) (hmc : ev_cn cf.2.2.2 ≤ ev_cn h') (hms : ev_sn cf.2.2.2 ≤ ev_sn h') (hcap : ev_cn h' - c0 ≤ R.cells ∧ ev_sn h' - s0 ≤ R.slots)
    (hM : ∀ T', tb y = some T' → ev_Met l D bs sa d T' as cf.2.2.2 w h') (kk : ev_G p l e R s m args below meth c D bs T c0 s0 Q (nx, lo, w.toList ++ r, h')) : ev_G p l e R s m args below meth c D bs T c0 s0 Q cf := by
  obtain ⟨pc, lo', sk, h⟩ := cf
  unfold ev_stp at hs
  dsimp only at hs hc hs0 hmc hms hM
  split at hs
  · rename_i i nx' x1 x2 v ts hf
    obtain ⟨hB, hW⟩ := hok.2.2 _ (ev_fnd_mem _ _ _ hf)
    dsimp only at hB hW
    simp only [ev_okB, Bool.and_eq_true, Bool.or_eq_true, decide_eq_true_eq] at hB
    obtain ⟨hd0, hlt, hln, hcc⟩ := hB
    have hd2 : ev_ln i ≠ 0 → decode T.1.2.2.1 pc = .ok (i, ev_ln i) ∧ nx' = pc + ev_ln i := by
      intro hne
      rcases hln with q | q
      · exact absurd q hne
      · refine ⟨?_, q⟩
        rw [hd0, q]
        congr 2
        omega
    have X' := X
    obtain ⟨hx, hb, hml, hret, hown, hnm, hlk, hts, hK, hRf, hRl, hbs⟩ := X'
    have hcr : ∀ T' : e_M, T'.1.2.2.2.1 ≤ 21 → (ev_rm d (ev_cn h' - ev_cn h) (ev_sn h' - ev_sn h)).frames + 1 ≤ R.frames ∧ 8 + (T'.1.2.2.2.1 + 11) + (ev_rm d (ev_cn h' - ev_cn h) (ev_sn h' - ev_sn h)).locals ≤ R.locals := by
      intro T' hT'
      refine ⟨hRf, ?_⟩
      show 8 + (T'.1.2.2.2.1 + 11) + 40 * d ≤ R.locals
      omega
    rcases ev_inr hs with ⟨-, q⟩ | ⟨-, q⟩ | ⟨-, q⟩ | ⟨-, q⟩ | ⟨idx, rfl, h1, hs⟩ | ⟨idx, rfl, h1, hs⟩ | ⟨idx, rfl, hv9⟩
    · exfalso; unfold ev_ret at q; split at q
      · have q := (ev_cond (y := some (Sum.inr (Sum.inr (y, as, nx, lo, r)))) q).2; cases q
      · cases q
    · exfalso; unfold ev_ret at q; split at q
      · have q := (ev_cond (y := some (Sum.inr (Sum.inr (y, as, nx, lo, r)))) q).2; cases q
      · cases q
    · exfalso; unfold ev_ret at q; split at q
      · have q := (ev_cond (y := some (Sum.inr (Sum.inr (y, as, nx, lo, r)))) q).2; cases q
      · cases q
    · exfalso; unfold ev_rtv at q; split at q <;> cases q
    · obtain ⟨hd, rfl⟩ := hd2 (Nat.succ_ne_zero _)
      dsimp only [ev_okW] at hW
      rw [if_neg h1] at hW
      obtain ⟨T', ht', ⟨hl, hini, hcode, hpl, h21⟩, hst⟩ := hW
      unfold ev_callS at hs
      obtain ⟨hq, hs⟩ := ev_cond (y := some (Sum.inr (Sum.inr (y, as, nx, lo, r)))) hs
      rw [Bool.and_eq_true] at hq
      have hlen := Nat.le_of_ble_eq_true hq.1
      have hsum := Nat.le_of_ble_eq_true hq.2
      unfold ev_sum at hsum
      simp only [Option.some.injEq, Sum.inr.injEq, Prod.mk.injEq] at hs
      obtain ⟨rfl, rfl, rfl, rfl, rfl⟩ := hs
      intro H locs ls hP hS hL
      have hsk : sk = (List.take x2 sk).reverse.reverse ++ List.drop x2 sk := by rw [List.reverse_reverse, List.take_append_drop]
      have hn : (List.take x2 sk).reverse.length = x2 := by simp; omega
      have hpre : PreS s H (ev_Pc D bs sa (List.take x2 sk).reverse h) (List.take x2 sk).reverse := ⟨ev_blind, ev_pre X hP hS⟩
      have hfit : ev_cn h - c0 + (ev_cn h' - ev_cn h) ≤ R.cells ∧ ev_sn h - s0 + (ev_sn h' - ev_sn h) ≤ R.slots := by omega
      rcases hl with hl | ⟨host, hl⟩
      · exact ev_back hc hs0 hmc hms (va_runS (g := F0 m pc ls sk) ⟨hx, hb, hml, hown, hts⟩ (hM T' ht') ⟨callB_of x2 hts (ev_good hcode) rfl rfl rfl (hts _ hini) (hts _ hl) hpl (hcr T' h21), hts _ hst⟩ hpre rfl hn hL.2.1 hsk (by show 2 * 0 + _ ≤ 8; omega) hd hfit) hS hL kk
      · exact ev_back hc hs0 hmc hms (va_runSN (g := F0 m pc ls sk) ⟨hx, hb, hml, hown, hts⟩ (hM T' ht') ⟨va_cnB x2 hts (ev_good hcode) rfl rfl rfl (hK.2.2.1 _ hl) (hts _ hini) hpl (hcr T' h21), hts _ hst, trivial⟩ hpre rfl hn hL.2.1 hsk (by show 2 * 0 + _ ≤ 8; omega) hd hfit) hS hL kk
    · obtain ⟨hd, rfl⟩ := hd2 (Nat.succ_ne_zero _)
      dsimp only [ev_okW] at hW
      rw [if_neg h1] at hW
      obtain ⟨T', ht', ⟨hl, hini, hcode, hpl, h21⟩, hnam, hins, hrt⟩ := hW
      unfold ev_callI at hs
      split at hs
      · rename_i b r' hdr
        obtain ⟨hq, hs⟩ := ev_cond (y := some (Sum.inr (Sum.inr (y, as, nx, lo, r)))) hs
        rw [Bool.and_eq_true] at hq
        have hlen := Nat.le_of_ble_eq_true hq.1
        have hsum := Nat.le_of_ble_eq_true hq.2
        unfold ev_sum at hsum
        simp only [Option.some.injEq, Sum.inr.injEq, Prod.mk.injEq] at hs
        obtain ⟨rfl, rfl, rfl, rfl, rfl⟩ := hs
        intro H locs ls hP hS hL
        have hsk : sk = (List.take x2 sk).reverse.reverse ++ .ref b :: r' := by rw [List.reverse_reverse, ← hdr, List.take_append_drop]
        have hn : (List.take x2 sk).reverse.length = x2 := by simp; omega
        have hpre : PreS s H (ev_Pc D bs sa (.ref b :: (List.take x2 sk).reverse) h) (.ref b :: (List.take x2 sk).reverse) := ⟨ev_blind, ev_pre X hP hS⟩
        have hfit : ev_cn h - c0 + (ev_cn h' - ev_cn h) ≤ R.cells ∧ ev_sn h - s0 + (ev_sn h' - ev_sn h) ≤ R.slots := by omega
        have hws : ev_ws T' = Cond.code T'.1.2.1 T'.1.2.2.1 T'.1.2.2.2.1 none :: ev_GW := by unfold ev_ws; rw [hrt]
        rcases hl with hl | ⟨host, hl⟩
        · exact ev_back hc hs0 hmc hms (va_runI (g := F0 m pc ls sk) ⟨hx, hb, hml, hown, hts⟩ (hM T' ht') (cwI x2 hts (ev_good hcode) hws rfl rfl (hts _ hini) (hts _ hl) (hts _ hins) hnam hpl (hcr T' h21)) hpre rfl hn hL.2.1 hsk (by show 2 * 0 + _ ≤ 8; omega) hd hfit) hS hL kk
        · exact ev_back hc hs0 hmc hms (va_runIN (g := F0 m pc ls sk) ⟨hx, hb, hml, hown, hts⟩ (hM T' ht') ⟨va_cnB x2 hts (ev_good hcode) hws rfl rfl (hK.2.2.1 _ hl) (hts _ hini) hpl (hcr T' h21), hnam, hts _ hins⟩ hpre rfl hn hL.2.1 hsk (by show 2 * 0 + _ ≤ 8; omega) hd hfit) hS hL kk
      · cases hs
    · obtain ⟨hd, rfl⟩ := hd2 (Nat.succ_ne_zero _)
      obtain ⟨T', ci, rr, ht', rfl, hrr, hcls, ⟨hl, hini, hcode, hpl, h21⟩, hins, hsel⟩ := hW
      have hs := hv9
      unfold ev_callV at hs
      split at hs
      · rename_i b r' ci' hdr hci
        cases hci
        split at hs
        · rename_i fs hfs
          obtain ⟨hq, hs⟩ := ev_cond (y := some (Sum.inr (Sum.inr (y, as, nx, lo, r)))) hs
          rw [Bool.and_eq_true] at hq
          have hlen := Nat.le_of_ble_eq_true hq.1
          have hsum := Nat.le_of_ble_eq_true hq.2
          unfold ev_sum at hsum
          simp only [Option.some.injEq, Sum.inr.injEq, Prod.mk.injEq] at hs
          obtain ⟨rfl, rfl, rfl, rfl, rfl⟩ := hs
          intro H locs ls hP hS hL
          have hsk : sk = (List.take x2 sk).reverse.reverse ++ .ref b :: r' := by rw [List.reverse_reverse, ← hdr, List.take_append_drop]
          have hn : (List.take x2 sk).reverse.length = x2 := by simp; omega
          have hrecv : ∃ cellB : Cell, H[b]? = some cellB ∧ cellB.vm.isStatics = false ∧ s.vm.findClass rr.1 = some cellB.cls := by
            obtain ⟨r2, k1, k2, cv, k3, k4, k5, k6⟩ := hP.1 b _ (ev_obj_spec hfs)
            exact ⟨cv, k3, by rw [k5]; rfl, by rw [k4]; exact (hK.1.1 ci _ hrr).2.1⟩
          have hpre : PreV s H rr.1 b (ev_Pc D bs sa (.ref b :: (List.take x2 sk).reverse) h) (List.take x2 sk).reverse := ⟨ev_blind, hrecv, ev_pre X hP hS⟩
          have hfit : ev_cn h - c0 + (ev_cn h' - ev_cn h) ≤ R.cells ∧ ev_sn h - s0 + (ev_sn h' - ev_sn h) ≤ R.slots := by omega
          rcases hl with hl | ⟨host, hl⟩
          · exact ev_back hc hs0 hmc hms (va_runV (g := F0 m pc ls sk) ⟨hx, hb, hml, hown, hts⟩ (hM T' ht') ⟨callB_of x2 hts (ev_good hcode) rfl rfl rfl (hts _ hini) (hts _ hl) hpl (hcr T' h21), hts _ hins, hts _ hsel⟩ hpre rfl hn hL.2.1 hsk (by show 2 * 0 + _ ≤ 8; omega) hd hfit) hS hL kk
          · exact ev_back hc hs0 hmc hms (va_runVN (g := F0 m pc ls sk) ⟨hx, hb, hml, hown, hts⟩ (hM T' ht') ⟨va_cnB x2 hts (ev_good hcode) rfl rfl rfl (hK.2.2.1 _ hl) (hts _ hini) hpl (hcr T' h21), hts _ hins, hts _ hsel⟩ hpre rfl hn hL.2.1 hsk (by show 2 * 0 + _ ≤ 8; omega) hd hfit) hS hL kk
        · cases hs
      · cases hs
  · cases hs
end EVC
end
section
section EVR
variable {p : Program} {l : Launch} {e : Env} {R : Room} {s : State} {m : MethodId} {args : Array Value} {below : List Frame} {meth : Method} {c : Code} {D : va_G} {bs : Nat} {sa : Nat → Nat} {T : e_M} {d c0 s0 : Nat} {Q : State → Prop} {tb : Nat → Option e_M}
variable {pc nx x1 x2 : Nat} {v : Value} {ts : List Nat} {lo : e_L} {sk : List Value} {h h' : e_H} {cf' : e_C}
/-- the counts never fall -/
def ev_le (h h' : e_H) : Prop := ev_cn h ≤ ev_cn h' ∧ ev_sn h ≤ ev_sn h'
theorem ev_le.rf : ev_le h h := ⟨Nat.le_refl _, Nat.le_refl _⟩
theorem ev_le.tr {h1 h2 h3 : e_H} (a : ev_le h1 h2) (b : ev_le h2 h3) : ev_le h1 h3 := ⟨Nat.le_trans a.1 b.1, Nat.le_trans a.2 b.2⟩
theorem ev_le.up {a : Nat} {o : e_O} : ev_le h (ev_up h a o) := ⟨Nat.le_refl _, Nat.le_refl _⟩
theorem ev_inl_le {rt : Option FieldType} {i : Instr} (hs : ev_ins bs sa rt nx x1 x2 v ts lo sk h i = some (.inl cf')) : ev_le h cf'.2.2.2 := by
  have g0 : ∀ {nx : Nat} {lo : e_L} {sk : List Value} {h1 : e_H}, ev_go nx lo sk h1 = some (.inl cf') → ev_le h h1 → ev_le h cf'.2.2.2 := by
    intro nx lo sk h1 q hq
    have q : (some (Sum.inl (nx, lo, sk, h1)) : Option e_R) = some (Sum.inl cf') := q
    cases q; exact hq
  have gc : ∀ {b : Bool} {nx : Nat} {lo : e_L} {sk : List Value} {h1 : e_H}, cond b (ev_go nx lo sk h1) none = some (.inl cf') → ev_le h h1 → ev_le h cf'.2.2.2 := fun q hq => g0 (ev_cond (y := some (Sum.inl cf')) q).2 hq
  have gn : ∀ {o : e_O} {n z : Nat} {h1 : e_H}, ev_new h o n = some (z, h1) → ev_le h h1 := fun q => ⟨by rw [(ev_cnew q).1]; omega, by rw [(ev_cnew q).2]; omega⟩
  unfold ev_ins at hs
  split at hs
  all_goals first
    | exact g0 hs ev_le.rf
    | (unfold ev_load at hs; split at hs <;> first | exact g0 hs ev_le.rf | cases hs)
    | (unfold ev_store at hs; split at hs <;> first | exact gc hs ev_le.rf | cases hs)
    | (unfold ev_inc at hs; split at hs <;> first | exact gc hs ev_le.rf | cases hs)
    | (unfold ev_storeL at hs; split at hs <;> first | exact gc hs ev_le.rf | cases hs)
    | (unfold ev_bin at hs; split at hs <;> first | exact g0 hs ev_le.rf | cases hs)
    | (unfold ev_un at hs; split at hs <;> first | exact g0 hs ev_le.rf | cases hs)
    | (unfold ev_binL at hs; split at hs <;> first | exact g0 hs ev_le.rf | cases hs)
    | (unfold ev_shL at hs; split at hs <;> first | exact g0 hs ev_le.rf | cases hs)
    | (unfold ev_l2i at hs; split at hs <;> first | exact g0 hs ev_le.rf | cases hs)
    | (unfold ev_dup at hs; split at hs <;> first | exact gc hs ev_le.rf | cases hs)
    | (unfold ev_dup2 at hs; split at hs <;> first | exact gc hs ev_le.rf | cases hs)
    | (unfold ev_icm at hs; split at hs <;> first | exact g0 hs ev_le.rf | cases hs)
    | (unfold ev_ifc at hs; split at hs <;> first | exact g0 hs ev_le.rf | cases hs)
    | (unfold ev_ifn at hs; split at hs <;> first | exact g0 hs ev_le.rf | cases hs)
    | (unfold ev_tss at hs; split at hs <;> first | exact g0 hs ev_le.rf | cases hs)
    | (unfold ev_alen at hs; split at hs <;> first | cases hs | (split at hs <;> first | exact g0 hs ev_le.rf | cases hs))
    | (unfold ev_iald at hs; split at hs <;> first | cases hs | (split at hs <;> first | exact gc hs ev_le.rf | cases hs))
    | (unfold ev_iast at hs; split at hs <;> first | cases hs | (split at hs <;> first | exact gc hs ev_le.up | cases hs))
    | (unfold ev_lald at hs; split at hs <;> first | cases hs | (split at hs <;> first | exact gc hs ev_le.rf | cases hs))
    | (unfold ev_last at hs; split at hs <;> first | cases hs | (split at hs <;> first | exact gc hs ev_le.up | cases hs))
    | (unfold ev_aald at hs; split at hs <;> first | cases hs | (split at hs <;> first | exact gc hs ev_le.rf | cases hs))
    | (unfold ev_aast at hs; split at hs <;> first | cases hs | (split at hs <;> first | exact gc hs ev_le.up | cases hs))
    | (unfold ev_put at hs; split at hs <;> first | cases hs | (split at hs <;> first | exact gc hs ev_le.up | cases hs))
    | (unfold ev_get at hs; split at hs <;> first | cases hs | (split at hs <;> first | cases hs | (split at hs <;> first | exact g0 hs ev_le.rf | cases hs)))
    | (unfold ev_nob at hs; split at hs <;> first | (rename_i hq; exact g0 hs (gn hq)) | cases hs)
    | (unfold ev_newa at hs; split at hs <;> first | cases hs | (have hs := (ev_cond (y := some (Sum.inl cf')) hs).2; split at hs <;> first | (rename_i hq; exact g0 hs (gn hq)) | cases hs))
    | (unfold ev_div at hs; split at hs <;> first | cases hs | (cases hq : decide (_ = (0 : Int32)) <;> rw [hq] at hs <;> first | exact g0 hs ev_le.rf | cases hs))
    | (unfold ev_ret at hs; split at hs <;> first | cases hs | (have hs := (ev_cond (y := some (Sum.inl cf')) hs).2; cases hs))
    | (unfold ev_rtv at hs; split at hs <;> cases hs)
    | (unfold ev_callV at hs; split at hs <;> first | cases hs | (split at hs <;> first | cases hs | (have hs := (ev_cond (y := some (Sum.inl cf')) hs).2; cases hs)))
    | (split at hs <;> first
        | (unfold ev_cpy at hs; split at hs <;> first | cases hs | (split at hs <;> first | exact gc hs ev_le.up | cases hs))
        | (unfold ev_oin at hs; split at hs <;> first | exact gc hs ev_le.rf | cases hs)
        | (unfold ev_callS at hs; have hs := (ev_cond (y := some (Sum.inl cf')) hs).2; cases hs)
        | (unfold ev_callI at hs; split at hs <;> first | cases hs | (have hs := (ev_cond (y := some (Sum.inl cf')) hs).2; cases hs)))
    | cases hs
theorem ev_stp_le {cf : e_C} (hs : ev_stp bs sa T cf = some (.inl cf')) : ev_le cf.2.2.2 cf'.2.2.2 := by
  unfold ev_stp at hs
  split at hs
  · exact ev_inl_le hs
  · cases hs
/-- the heap at an end -/
def ev_eh (x : e_C ⊕ (Option Value × e_H)) : e_H := match x with
  | .inl cf => cf.2.2.2
  | .inr q => q.2
theorem ev_rch_le {K : Nat → List Value → e_H → Option Value → e_H → Prop} {E : e_C ⊕ (Option Value × e_H) → Prop} (hK : ∀ y as h v h', K y as h v h' → ev_le h h') : ∀ (n : Nat) (cf : e_C), ev_rch bs sa K T E n cf → ∃ x, E x ∧ ev_le cf.2.2.2 (ev_eh x) := by
  intro n
  induction n with
  | zero => intro cf h; exact ⟨_, h, ev_le.rf⟩
  | succ n ih =>
    intro cf h
    rcases h with h | h
    · exact ⟨_, h, ev_le.rf⟩
    · split at h
      · rename_i cf' hs
        obtain ⟨x, hx, hl⟩ := ih _ h
        exact ⟨x, hx, (ev_stp_le hs).tr hl⟩
      · exact ⟨_, h, ev_le.rf⟩
      · obtain ⟨v, h', hk, hr⟩ := h
        obtain ⟨x, hx, hl⟩ := ih _ hr
        exact ⟨x, hx, (hK _ _ _ _ _ hk).tr hl⟩
      · exact h.elim
theorem ev_run_le : ∀ (d y : Nat) (as : List Value) (h : e_H) (v : Option Value) (h' : e_H), ev_run tb bs sa d y as h v h' → ev_le h h' := by
  intro d
  induction d with
  | zero => intro y as h v h' q; exact q.elim
  | succ d ih =>
    intro y as h v h' q
    obtain ⟨T, n, -, -, hr⟩ := q
    obtain ⟨x, hx, hl⟩ := ev_rch_le (ih) n _ hr
    subst hx
    exact hl
/-- a run inside a method: the machine comes to where the run comes -/
theorem ev_rch_W {E : e_C ⊕ (Option Value × e_H) → Prop} (X : ev_X p R s m args meth c D bs sa T d) (hGl : ev_glob) (hok : ev_ok tb T) (hM : ∀ y as h v h', ev_run tb bs sa d y as h v h' → ∀ T', tb y = some T' → ev_Met l D bs sa d T' as h v h')
    (hE1 : ∀ cf, E (.inl cf) → ev_G p l e R s m args below meth c D bs T c0 s0 Q cf) (hE2 : ∀ cf v, E (.inr (v, cf.2.2.2)) → ev_stp bs sa T cf = some (.inr (.inl v)) → ev_G p l e R s m args below meth c D bs T c0 s0 Q cf)
    (hcap : ∀ x, E x → ev_cn (ev_eh x) - c0 ≤ R.cells ∧ ev_sn (ev_eh x) - s0 ≤ R.slots) : ∀ (n : Nat) (cf : e_C), c0 ≤ ev_cn cf.2.2.2 → s0 ≤ ev_sn cf.2.2.2 → ev_rch bs sa (ev_run tb bs sa d) T E n cf → ev_G p l e R s m args below meth c D bs T c0 s0 Q cf := by
  intro n
  induction n with
  | zero => intro cf _ _ h; exact hE1 cf h
  | succ n ih =>
    intro cf hc hs0 h
    have h9 := h
    rcases h with h | h
    · exact hE1 cf h
    · split at h
      · rename_i cf' hs
        have hle := ev_stp_le hs
        obtain ⟨x, hx, hl⟩ := ev_rch_le (ev_run_le d) n cf' h
        have hcx := hcap x hx
        have := hle.1; have := hle.2; have := hl.1; have := hl.2
        exact ev_step X hGl hok hs hc hs0 ⟨by omega, by omega⟩ (ih cf' (by omega) (by omega) h)
      · rename_i v hs
        exact hE2 cf v h hs
      · rename_i y as nx lo r hs
        obtain ⟨v, h', hk, hr⟩ := h
        have hle := ev_run_le d _ _ _ _ _ hk
        obtain ⟨x, hx, hl⟩ := ev_rch_le (ev_run_le d) n _ hr
        have hcx := hcap x hx
        have := hle.1; have := hle.2; have := hl.1; have := hl.2
        dsimp only at *
        exact ev_call X hok hs hc hs0 hle.1 hle.2 ⟨by omega, by omega⟩ (hM _ _ _ _ _ hk) (ih _ (by dsimp only; omega) (by dsimp only; omega) hr)
      · exact h.elim
theorem ev_ends {cf : e_C} {w : Option Value} (X : ev_X p R s m args meth c D bs sa T d) (hok : ev_ok tb T) (hs : ev_stp bs sa T cf = some (.inr (.inl w))) :
    ev_G p l e R s m args below meth c D bs T c0 s0 (MQ below (ev_Qc D bs w cf.2.2.2) args s (ev_cn cf.2.2.2 - c0) (ev_sn cf.2.2.2 - s0) (fun q => bs ≤ q)) cf := by
  obtain ⟨pc, lo, sk, h⟩ := cf
  unfold ev_stp at hs
  dsimp only at hs
  obtain ⟨hx, hb, hml, hret, hown, hnm, hlk, hts, hK, hRf, hRl, hbs⟩ := X
  split at hs
  · rename_i i nx x1 x2 v ts hf
    obtain ⟨hB, -⟩ := hok.2.2 _ (ev_fnd_mem _ _ _ hf)
    dsimp only at hB
    simp only [ev_okB, Bool.and_eq_true, Bool.or_eq_true, decide_eq_true_eq] at hB
    obtain ⟨hd0, hlt, hln, hcc⟩ := hB
    have hd2 : ev_ln i ≠ 0 → decode T.1.2.2.1 pc = .ok (i, ev_ln i) ∧ nx = pc + ev_ln i := by
      intro hne
      rcases hln with q | q
      · exact absurd q hne
      · refine ⟨?_, q⟩
        rw [hd0, q]
        congr 2
        omega
    have hq : ∀ (H : Heap) (locs : List Loc), ev_P D s h H → va_S (fun q => bs ≤ q) s.heap H locs → ∀ t : State, t.heap = H → s.WarmedH t.vm → ev_Qc D bs w h args s (.returned w) t := fun H locs hP hS t ht hW => ⟨rfl, by rw [ht]; exact ev_P.moved hW.alike hP, hS.F ht⟩
    rcases ev_inr hs with ⟨rfl, q⟩ | ⟨rfl, q⟩ | ⟨rfl, q⟩ | ⟨rfl, q⟩ | ⟨idx, rfl, h1, q⟩ | ⟨idx, rfl, h1, q⟩ | ⟨idx, rfl, q⟩
    · obtain ⟨hd, -⟩ := hd2 (Nat.succ_ne_zero _)
      unfold ev_ret at q
      split at q
      · rename_i w0 ty hr
        obtain ⟨hk, q⟩ := ev_cond (y := some (Sum.inr (Sum.inl w))) q
        rw [Bool.and_eq_true, Bool.and_eq_true] at hk
        obtain ⟨x, rfl⟩ := ev_kd0 (Nat.eq_of_beq_eq_true hk.1) rfl
        cases q
        intro H locs ls hP hS hL
        exact W.zret hx hb (hret.trans hr) (of_decide_eq_true hk.2.2) (hq H locs hP hS) hS.2.2 hd
      · cases q
    · obtain ⟨hd, -⟩ := hd2 (Nat.succ_ne_zero _)
      unfold ev_ret at q
      split at q
      · rename_i w0 ty hr
        obtain ⟨hk, q⟩ := ev_cond (y := some (Sum.inr (Sum.inl w))) q
        rw [Bool.and_eq_true, Bool.and_eq_true] at hk
        obtain ⟨x, rfl⟩ := ev_kd1 (Nat.eq_of_beq_eq_true hk.1) rfl
        cases q
        intro H locs ls hP hS hL
        have hty : ty = .long := by
          have h9 := Nat.eq_of_beq_eq_true hk.2.1
          cases ty <;> first | rfl | (simp [ev_rk] at h9)
        subst hty
        exact W.lret hx hb (hret.trans hr) (hq H locs hP hS) hS.2.2 hd
      · cases q
    · obtain ⟨hd, -⟩ := hd2 (Nat.succ_ne_zero _)
      unfold ev_ret at q
      split at q
      · rename_i w0 ty hr
        obtain ⟨hk, q⟩ := ev_cond (y := some (Sum.inr (Sum.inl w))) q
        rw [Bool.and_eq_true, Bool.and_eq_true] at hk
        have hkk := ev_kd2 (Nat.eq_of_beq_eq_true hk.1) rfl
        cases q
        intro H locs ls hP hS hL
        have hty : (∃ n, ty = .object n) ∨ ∃ t, ty = .array t := by
          have h9 := Nat.eq_of_beq_eq_true hk.2.1
          cases ty <;> first | exact Or.inl ⟨_, rfl⟩ | exact Or.inr ⟨_, rfl⟩ | (simp [ev_rk] at h9)
        exact W.aret hx hb (hret.trans hr) hty hkk (hq H locs hP hS) hS.2.2 hd
      · cases q
    · obtain ⟨hd, -⟩ := hd2 (Nat.succ_ne_zero _)
      unfold ev_rtv at q
      split at q
      · rename_i hr
        cases q
        intro H locs ls hP hS hL
        exact W.vret hx hb (hret.trans hr) (hq H locs hP hS) hS.2.2 hd
      · cases q
    · exfalso; unfold ev_callS at q
      have q := (ev_cond (y := some (Sum.inr (Sum.inl w))) q).2; cases q
    · exfalso; unfold ev_callI at q
      split at q
      · have q := (ev_cond (y := some (Sum.inr (Sum.inl w))) q).2; cases q
      · cases q
    · exfalso; unfold ev_callV at q
      split at q
      · split at q
        · have q := (ev_cond (y := some (Sum.inr (Sum.inl w))) q).2; cases q
        · cases q
      · cases q
  · cases hs
/-- SOUNDNESS: a run of the evaluator is a contract of the method -/
theorem ev_sound (hGl : ev_glob) (htb : ∀ y T, tb y = some T → ev_ok tb T) : ∀ (d y : Nat) (as : List Value) (h : e_H) (v : Option Value) (h' : e_H), ev_run tb bs sa d y as h v h' → ∀ T, tb y = some T → ev_Met l D bs sa d T as h v h' := by
  intro d
  induction d with
  | zero => intro y as h v h' q; exact q.elim
  | succ d ih =>
    intro y as h v h' q T hT
    obtain ⟨T', n, hT', hlen, hr⟩ := q
    cases hT.symm.trans hT'
    have hok := htb y T hT
    unfold ev_Met
    refine Met.ofW (cc := T.1.2.2.1) (maxL := T.1.2.2.2.1) (ret := T.1.2.2.2.2) (ws' := ev_GW) (by rw [hok.1]; exact hok.2.1) rfl ?_
    intro p e s m args below meth c s₁ B hml hv
    obtain ⟨rfl, hbs, hP, hK⟩ := hv
    have hts0 := atoms_spec (ws := ev_ws T) B.pre
    have hts : ∀ w ∈ ev_GW, w.before as.toArray s = true := fun w hw => hts0 w (List.mem_cons_of_mem _ hw)
    have hown : s.vm.findClass T.1.1 = some m.cls := by rw [← hok.1]; exact findClass_of_methodNamed B.named
    have X : ev_X p (headSpec (ev_ws T) (ev_rm (d + 1) (ev_cn h' - ev_cn h) (ev_sn h' - ev_sn h))).room s m as.toArray meth c D bs sa T d := ⟨B.exec, B.bytes, hml, B.returns, hown, (name_of_methodNamed B.named B.method).1, B.notSynchronized, hts, hK, Nat.le_refl _, Nat.le_refl _, hbs⟩
    rw [lg_entry_eq]
    have hW := ev_rch_W (p := p) (l := l) (e := e) (s := s) (m := m) (below := below) (meth := meth) (c := c) (c0 := ev_cn h) (s0 := ev_sn h) (Q := MQ below (ev_Qc D bs v h') as.toArray s (ev_cn h' - ev_cn h) (ev_sn h' - ev_sn h) (fun q => bs ≤ q)) (E := fun x => x = .inr (v, h')) X hGl hok ih
      (fun cf q => by cases q)
      (fun cf w q hs => by
        simp only [Sum.inr.injEq, Prod.mk.injEq] at q
        obtain ⟨rfl, rfl⟩ := q
        exact ev_ends X hok hs)
      (fun x q => by subst q; exact ⟨Nat.le_refl _, Nat.le_refl _⟩) n _ (Nat.le_refl _) (Nat.le_refl _) hr
    have := hW s.heap [] _ hP va_S.rf (ev_LR.entry as hlen)
    exact W.cs (by simp) (by simp) this
end EVR
end
section
theorem i_vc : Claimed_1_1 ∧ Claimed_1_2 := sorry
end
