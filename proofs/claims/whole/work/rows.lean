section
-- ===== PART A: goes FIRST, ahead of the names: the tables' words, and 'selects' of the private methods out of them =====
/-- a private method of a class that the tables say can be made, by its rows of tables_1 -/
def lw_okq (q : MethodName × Nat) : Prop := (q.1.cls ≠ "java/lang/invoke/MethodHandle" ∧ q.1.cls ≠ "java/lang/invoke/VarHandle") ∧ Cond.instantiable q.1.cls q.2 ∈ tables_1 ∧ Cond.privateMethod q.1 ∈ tables_1 ∧ Cond.instanceMethod q.1 ∈ tables_1
theorem lw_p0 : lw_okq (⟨"EnclaveMonitor$Sealer", "derive", "(JI[I)V"⟩, 6) := ⟨⟨by decide +kernel, by decide +kernel⟩, List.mem_of_getElem? (i := 111) (by decide +kernel), List.mem_of_getElem? (i := 119) (by decide +kernel), List.mem_of_getElem? (i := 120) (by decide +kernel)⟩
theorem lw_p1 : lw_okq (⟨"EnclaveMonitor$Hash", "padMessage", "()I"⟩, 4) := ⟨⟨by decide +kernel, by decide +kernel⟩, List.mem_of_getElem? (i := 21) (by decide +kernel), List.mem_of_getElem? (i := 135) (by decide +kernel), List.mem_of_getElem? (i := 136) (by decide +kernel)⟩
theorem lw_p2 : lw_okq (⟨"EnclaveMonitor$Hash", "fillSchedule", "(I)V"⟩, 4) := ⟨⟨by decide +kernel, by decide +kernel⟩, List.mem_of_getElem? (i := 21) (by decide +kernel), List.mem_of_getElem? (i := 145) (by decide +kernel), List.mem_of_getElem? (i := 146) (by decide +kernel)⟩
theorem lw_p3 : lw_okq (⟨"EnclaveMonitor$Hash", "compress", "()V"⟩, 4) := ⟨⟨by decide +kernel, by decide +kernel⟩, List.mem_of_getElem? (i := 21) (by decide +kernel), List.mem_of_getElem? (i := 152) (by decide +kernel), List.mem_of_getElem? (i := 153) (by decide +kernel)⟩
theorem lw_p4 : lw_okq (⟨"EnclaveMonitor", "isOfType", "(II)Z"⟩, 11) := ⟨⟨by decide +kernel, by decide +kernel⟩, List.mem_of_getElem? (i := 13) (by decide +kernel), List.mem_of_getElem? (i := 215) (by decide +kernel), List.mem_of_getElem? (i := 216) (by decide +kernel)⟩
theorem lw_p5 : lw_okq (⟨"EnclaveMonitor", "whyNotAdded", "(II)I"⟩, 11) := ⟨⟨by decide +kernel, by decide +kernel⟩, List.mem_of_getElem? (i := 13) (by decide +kernel), List.mem_of_getElem? (i := 226) (by decide +kernel), List.mem_of_getElem? (i := 227) (by decide +kernel)⟩
theorem lw_p6 : lw_okq (⟨"EnclaveMonitor", "stateOf", "(I)I"⟩, 11) := ⟨⟨by decide +kernel, by decide +kernel⟩, List.mem_of_getElem? (i := 13) (by decide +kernel), List.mem_of_getElem? (i := 230) (by decide +kernel), List.mem_of_getElem? (i := 231) (by decide +kernel)⟩
theorem lw_p7 : lw_okq (⟨"EnclaveMonitor", "extendMeasure", "(LEnclaveMonitor$Page;LEnclaveMonitor$Page;I)V"⟩, 11) := ⟨⟨by decide +kernel, by decide +kernel⟩, List.mem_of_getElem? (i := 13) (by decide +kernel), List.mem_of_getElem? (i := 238) (by decide +kernel), List.mem_of_getElem? (i := 239) (by decide +kernel)⟩
theorem lw_p8 : lw_okq (⟨"EnclaveMonitor", "hasAddress", "(II)Z"⟩, 11) := ⟨⟨by decide +kernel, by decide +kernel⟩, List.mem_of_getElem? (i := 13) (by decide +kernel), List.mem_of_getElem? (i := 254) (by decide +kernel), List.mem_of_getElem? (i := 255) (by decide +kernel)⟩
theorem lw_p9 : lw_okq (⟨"EnclaveMonitor", "isRemovable", "(I)Z"⟩, 11) := ⟨⟨by decide +kernel, by decide +kernel⟩, List.mem_of_getElem? (i := 13) (by decide +kernel), List.mem_of_getElem? (i := 279) (by decide +kernel), List.mem_of_getElem? (i := 280) (by decide +kernel)⟩
theorem lw_p10 : lw_okq (⟨"EnclaveMonitor", "ownedBy", "(I)I"⟩, 11) := ⟨⟨by decide +kernel, by decide +kernel⟩, List.mem_of_getElem? (i := 13) (by decide +kernel), List.mem_of_getElem? (i := 283) (by decide +kernel), List.mem_of_getElem? (i := 284) (by decide +kernel)⟩
theorem lw_p11 : lw_okq (⟨"EnclaveMonitor", "whyNotRun", "(IZI)I"⟩, 11) := ⟨⟨by decide +kernel, by decide +kernel⟩, List.mem_of_getElem? (i := 13) (by decide +kernel), List.mem_of_getElem? (i := 295) (by decide +kernel), List.mem_of_getElem? (i := 296) (by decide +kernel)⟩
theorem lw_p12 : lw_okq (⟨"EnclaveMonitor", "runThread", "(II)I"⟩, 11) := ⟨⟨by decide +kernel, by decide +kernel⟩, List.mem_of_getElem? (i := 13) (by decide +kernel), List.mem_of_getElem? (i := 303) (by decide +kernel), List.mem_of_getElem? (i := 304) (by decide +kernel)⟩
theorem lw_p13 : lw_okq (⟨"EnclaveMonitor$Runner", "step", "([I[I)I"⟩, 5) := ⟨⟨by decide +kernel, by decide +kernel⟩, List.mem_of_getElem? (i := 41) (by decide +kernel), List.mem_of_getElem? (i := 317) (by decide +kernel), List.mem_of_getElem? (i := 318) (by decide +kernel)⟩
theorem lw_p14 : lw_okq (⟨"EnclaveMonitor$Runner", "reach", "(II)LEnclaveMonitor$Page;"⟩, 5) := ⟨⟨by decide +kernel, by decide +kernel⟩, List.mem_of_getElem? (i := 41) (by decide +kernel), List.mem_of_getElem? (i := 321) (by decide +kernel), List.mem_of_getElem? (i := 322) (by decide +kernel)⟩
theorem lw_p15 : lw_okq (⟨"EnclaveMonitor$Runner", "fetch", "([III)Z"⟩, 5) := ⟨⟨by decide +kernel, by decide +kernel⟩, List.mem_of_getElem? (i := 41) (by decide +kernel), List.mem_of_getElem? (i := 328) (by decide +kernel), List.mem_of_getElem? (i := 329) (by decide +kernel)⟩
def lw_privs_1 : List (MethodName × Nat) := [(⟨"EnclaveMonitor$Sealer", "derive", "(JI[I)V"⟩, 6), (⟨"EnclaveMonitor$Hash", "padMessage", "()I"⟩, 4), (⟨"EnclaveMonitor$Hash", "fillSchedule", "(I)V"⟩, 4), (⟨"EnclaveMonitor$Hash", "compress", "()V"⟩, 4), (⟨"EnclaveMonitor", "isOfType", "(II)Z"⟩, 11), (⟨"EnclaveMonitor", "whyNotAdded", "(II)I"⟩, 11), (⟨"EnclaveMonitor", "stateOf", "(I)I"⟩, 11), (⟨"EnclaveMonitor", "extendMeasure", "(LEnclaveMonitor$Page;LEnclaveMonitor$Page;I)V"⟩, 11), (⟨"EnclaveMonitor", "hasAddress", "(II)Z"⟩, 11), (⟨"EnclaveMonitor", "isRemovable", "(I)Z"⟩, 11), (⟨"EnclaveMonitor", "ownedBy", "(I)I"⟩, 11), (⟨"EnclaveMonitor", "whyNotRun", "(IZI)I"⟩, 11), (⟨"EnclaveMonitor", "runThread", "(II)I"⟩, 11), (⟨"EnclaveMonitor$Runner", "step", "([I[I)I"⟩, 5), (⟨"EnclaveMonitor$Runner", "reach", "(II)LEnclaveMonitor$Page;"⟩, 5), (⟨"EnclaveMonitor$Runner", "fetch", "([III)Z"⟩, 5)]
theorem lw_r1 : ∀ q ∈ lw_privs_1, lw_okq q := List.forall_mem_cons.mpr ⟨lw_p0, List.forall_mem_cons.mpr ⟨lw_p1, List.forall_mem_cons.mpr ⟨lw_p2, List.forall_mem_cons.mpr ⟨lw_p3, List.forall_mem_cons.mpr ⟨lw_p4, List.forall_mem_cons.mpr ⟨lw_p5, List.forall_mem_cons.mpr ⟨lw_p6, List.forall_mem_cons.mpr ⟨lw_p7, List.forall_mem_cons.mpr ⟨lw_p8, List.forall_mem_cons.mpr ⟨lw_p9, List.forall_mem_cons.mpr ⟨lw_p10, List.forall_mem_cons.mpr ⟨lw_p11, List.forall_mem_cons.mpr ⟨lw_p12, List.forall_mem_cons.mpr ⟨lw_p13, List.forall_mem_cons.mpr ⟨lw_p14, List.forall_mem_cons.mpr ⟨lw_p15, fun _ h => absurd h List.not_mem_nil⟩⟩⟩⟩⟩⟩⟩⟩⟩⟩⟩⟩⟩⟩⟩⟩
theorem lw_p16 : lw_okq (⟨"EnclaveMonitor$Runner", "store", "(II)Z"⟩, 5) := ⟨⟨by decide +kernel, by decide +kernel⟩, List.mem_of_getElem? (i := 41) (by decide +kernel), List.mem_of_getElem? (i := 332) (by decide +kernel), List.mem_of_getElem? (i := 333) (by decide +kernel)⟩
theorem lw_p17 : lw_okq (⟨"EnclaveMonitor$Runner", "forget", "([I)V"⟩, 5) := ⟨⟨by decide +kernel, by decide +kernel⟩, List.mem_of_getElem? (i := 41) (by decide +kernel), List.mem_of_getElem? (i := 336) (by decide +kernel), List.mem_of_getElem? (i := 337) (by decide +kernel)⟩
theorem lw_p18 : lw_okq (⟨"EnclaveMonitor", "whyNotEvicted", "(III)I"⟩, 11) := ⟨⟨by decide +kernel, by decide +kernel⟩, List.mem_of_getElem? (i := 13) (by decide +kernel), List.mem_of_getElem? (i := 352) (by decide +kernel), List.mem_of_getElem? (i := 353) (by decide +kernel)⟩
theorem lw_p19 : lw_okq (⟨"EnclaveMonitor", "writeBlob", "(LEnclaveMonitor$Page;J)V"⟩, 11) := ⟨⟨by decide +kernel, by decide +kernel⟩, List.mem_of_getElem? (i := 13) (by decide +kernel), List.mem_of_getElem? (i := 365) (by decide +kernel), List.mem_of_getElem? (i := 366) (by decide +kernel)⟩
theorem lw_p20 : lw_okq (⟨"EnclaveMonitor$Sealer", "makeBlock", "(III)V"⟩, 6) := ⟨⟨by decide +kernel, by decide +kernel⟩, List.mem_of_getElem? (i := 111) (by decide +kernel), List.mem_of_getElem? (i := 373) (by decide +kernel), List.mem_of_getElem? (i := 374) (by decide +kernel)⟩
theorem lw_p21 : lw_okq (⟨"EnclaveMonitor$Sealer", "mixQuarter", "(IIII)V"⟩, 6) := ⟨⟨by decide +kernel, by decide +kernel⟩, List.mem_of_getElem? (i := 111) (by decide +kernel), List.mem_of_getElem? (i := 380) (by decide +kernel), List.mem_of_getElem? (i := 381) (by decide +kernel)⟩
theorem lw_p22 : lw_okq (⟨"EnclaveMonitor$Sealer", "beginWithMark", "(I)V"⟩, 6) := ⟨⟨by decide +kernel, by decide +kernel⟩, List.mem_of_getElem? (i := 111) (by decide +kernel), List.mem_of_getElem? (i := 392) (by decide +kernel), List.mem_of_getElem? (i := 393) (by decide +kernel)⟩
theorem lw_p23 : lw_okq (⟨"EnclaveMonitor", "whyNotReloaded", "(IIII)I"⟩, 11) := ⟨⟨by decide +kernel, by decide +kernel⟩, List.mem_of_getElem? (i := 13) (by decide +kernel), List.mem_of_getElem? (i := 406) (by decide +kernel), List.mem_of_getElem? (i := 407) (by decide +kernel)⟩
theorem lw_p24 : lw_okq (⟨"EnclaveMonitor", "isTagged", "()Z"⟩, 11) := ⟨⟨by decide +kernel, by decide +kernel⟩, List.mem_of_getElem? (i := 13) (by decide +kernel), List.mem_of_getElem? (i := 410) (by decide +kernel), List.mem_of_getElem? (i := 411) (by decide +kernel)⟩
theorem lw_p25 : lw_okq (⟨"EnclaveMonitor", "readBlob", "(LEnclaveMonitor$Page;I)V"⟩, 11) := ⟨⟨by decide +kernel, by decide +kernel⟩, List.mem_of_getElem? (i := 13) (by decide +kernel), List.mem_of_getElem? (i := 415) (by decide +kernel), List.mem_of_getElem? (i := 416) (by decide +kernel)⟩
theorem lw_p26 : lw_okq (⟨"EnclaveMonitor", "pagesOfType", "(I)I"⟩, 11) := ⟨⟨by decide +kernel, by decide +kernel⟩, List.mem_of_getElem? (i := 13) (by decide +kernel), List.mem_of_getElem? (i := 435) (by decide +kernel), List.mem_of_getElem? (i := 436) (by decide +kernel)⟩
theorem lw_p27 : lw_okq (⟨"java/lang/Throwable", "fillInStackTrace", "(I)Ljava/lang/Throwable;"⟩, 6) := ⟨⟨by decide +kernel, by decide +kernel⟩, List.mem_of_getElem? (i := 486) (by decide +kernel), List.mem_of_getElem? (i := 484) (by decide +kernel), List.mem_of_getElem? (i := 485) (by decide +kernel)⟩
theorem lw_p28 : lw_okq (⟨"EnclaveMonitorModel", "digest", "(I)V"⟩, 30) := ⟨⟨by decide +kernel, by decide +kernel⟩, List.mem_of_getElem? (i := 523) (by decide +kernel), List.mem_of_getElem? (i := 529) (by decide +kernel), List.mem_of_getElem? (i := 530) (by decide +kernel)⟩
theorem lw_p29 : lw_okq (⟨"EnclaveMonitorModel", "block", "(I)V"⟩, 30) := ⟨⟨by decide +kernel, by decide +kernel⟩, List.mem_of_getElem? (i := 523) (by decide +kernel), List.mem_of_getElem? (i := 536) (by decide +kernel), List.mem_of_getElem? (i := 537) (by decide +kernel)⟩
theorem lw_p30 : lw_okq (⟨"EnclaveMonitorModel", "isOf", "(II)Z"⟩, 30) := ⟨⟨by decide +kernel, by decide +kernel⟩, List.mem_of_getElem? (i := 523) (by decide +kernel), List.mem_of_getElem? (i := 652) (by decide +kernel), List.mem_of_getElem? (i := 653) (by decide +kernel)⟩
theorem lw_p31 : lw_okq (⟨"EnclaveMonitorModel", "becomes", "(II)V"⟩, 30) := ⟨⟨by decide +kernel, by decide +kernel⟩, List.mem_of_getElem? (i := 523) (by decide +kernel), List.mem_of_getElem? (i := 656) (by decide +kernel), List.mem_of_getElem? (i := 657) (by decide +kernel)⟩
def lw_privs_2 : List (MethodName × Nat) := [(⟨"EnclaveMonitor$Runner", "store", "(II)Z"⟩, 5), (⟨"EnclaveMonitor$Runner", "forget", "([I)V"⟩, 5), (⟨"EnclaveMonitor", "whyNotEvicted", "(III)I"⟩, 11), (⟨"EnclaveMonitor", "writeBlob", "(LEnclaveMonitor$Page;J)V"⟩, 11), (⟨"EnclaveMonitor$Sealer", "makeBlock", "(III)V"⟩, 6), (⟨"EnclaveMonitor$Sealer", "mixQuarter", "(IIII)V"⟩, 6), (⟨"EnclaveMonitor$Sealer", "beginWithMark", "(I)V"⟩, 6), (⟨"EnclaveMonitor", "whyNotReloaded", "(IIII)I"⟩, 11), (⟨"EnclaveMonitor", "isTagged", "()Z"⟩, 11), (⟨"EnclaveMonitor", "readBlob", "(LEnclaveMonitor$Page;I)V"⟩, 11), (⟨"EnclaveMonitor", "pagesOfType", "(I)I"⟩, 11), (⟨"java/lang/Throwable", "fillInStackTrace", "(I)Ljava/lang/Throwable;"⟩, 6), (⟨"EnclaveMonitorModel", "digest", "(I)V"⟩, 30), (⟨"EnclaveMonitorModel", "block", "(I)V"⟩, 30), (⟨"EnclaveMonitorModel", "isOf", "(II)Z"⟩, 30), (⟨"EnclaveMonitorModel", "becomes", "(II)V"⟩, 30)]
theorem lw_r2 : ∀ q ∈ lw_privs_2, lw_okq q := List.forall_mem_cons.mpr ⟨lw_p16, List.forall_mem_cons.mpr ⟨lw_p17, List.forall_mem_cons.mpr ⟨lw_p18, List.forall_mem_cons.mpr ⟨lw_p19, List.forall_mem_cons.mpr ⟨lw_p20, List.forall_mem_cons.mpr ⟨lw_p21, List.forall_mem_cons.mpr ⟨lw_p22, List.forall_mem_cons.mpr ⟨lw_p23, List.forall_mem_cons.mpr ⟨lw_p24, List.forall_mem_cons.mpr ⟨lw_p25, List.forall_mem_cons.mpr ⟨lw_p26, List.forall_mem_cons.mpr ⟨lw_p27, List.forall_mem_cons.mpr ⟨lw_p28, List.forall_mem_cons.mpr ⟨lw_p29, List.forall_mem_cons.mpr ⟨lw_p30, List.forall_mem_cons.mpr ⟨lw_p31, fun _ h => absurd h List.not_mem_nil⟩⟩⟩⟩⟩⟩⟩⟩⟩⟩⟩⟩⟩⟩⟩⟩
theorem lw_p32 : lw_okq (⟨"EnclaveMonitorModel", "measured", "(III)V"⟩, 30) := ⟨⟨by decide +kernel, by decide +kernel⟩, List.mem_of_getElem? (i := 523) (by decide +kernel), List.mem_of_getElem? (i := 664) (by decide +kernel), List.mem_of_getElem? (i := 665) (by decide +kernel)⟩
theorem lw_p33 : lw_okq (⟨"EnclaveMonitorModel", "at", "(II)I"⟩, 30) := ⟨⟨by decide +kernel, by decide +kernel⟩, List.mem_of_getElem? (i := 523) (by decide +kernel), List.mem_of_getElem? (i := 672) (by decide +kernel), List.mem_of_getElem? (i := 673) (by decide +kernel)⟩
theorem lw_p34 : lw_okq (⟨"EnclaveMonitorModel", "owned", "(I)I"⟩, 30) := ⟨⟨by decide +kernel, by decide +kernel⟩, List.mem_of_getElem? (i := 523) (by decide +kernel), List.mem_of_getElem? (i := 692) (by decide +kernel), List.mem_of_getElem? (i := 693) (by decide +kernel)⟩
theorem lw_p35 : lw_okq (⟨"EnclaveMonitorModel", "run", "(II)I"⟩, 30) := ⟨⟨by decide +kernel, by decide +kernel⟩, List.mem_of_getElem? (i := 523) (by decide +kernel), List.mem_of_getElem? (i := 700) (by decide +kernel), List.mem_of_getElem? (i := 701) (by decide +kernel)⟩
theorem lw_p36 : lw_okq (⟨"EnclaveMonitorModel", "step", "(I)V"⟩, 30) := ⟨⟨by decide +kernel, by decide +kernel⟩, List.mem_of_getElem? (i := 523) (by decide +kernel), List.mem_of_getElem? (i := 704) (by decide +kernel), List.mem_of_getElem? (i := 705) (by decide +kernel)⟩
theorem lw_p37 : lw_okq (⟨"EnclaveMonitorModel", "reach", "(III)I"⟩, 30) := ⟨⟨by decide +kernel, by decide +kernel⟩, List.mem_of_getElem? (i := 523) (by decide +kernel), List.mem_of_getElem? (i := 708) (by decide +kernel), List.mem_of_getElem? (i := 709) (by decide +kernel)⟩
theorem lw_p38 : lw_okq (⟨"EnclaveMonitorModel", "inSlot", "(II)J"⟩, 30) := ⟨⟨by decide +kernel, by decide +kernel⟩, List.mem_of_getElem? (i := 523) (by decide +kernel), List.mem_of_getElem? (i := 724) (by decide +kernel), List.mem_of_getElem? (i := 725) (by decide +kernel)⟩
theorem lw_p39 : lw_okq (⟨"EnclaveMonitorModel", "seal", "([II[II)V"⟩, 30) := ⟨⟨by decide +kernel, by decide +kernel⟩, List.mem_of_getElem? (i := 523) (by decide +kernel), List.mem_of_getElem? (i := 729) (by decide +kernel), List.mem_of_getElem? (i := 730) (by decide +kernel)⟩
theorem lw_p40 : lw_okq (⟨"EnclaveMonitorModel", "stream", "(III)V"⟩, 30) := ⟨⟨by decide +kernel, by decide +kernel⟩, List.mem_of_getElem? (i := 523) (by decide +kernel), List.mem_of_getElem? (i := 733) (by decide +kernel), List.mem_of_getElem? (i := 734) (by decide +kernel)⟩
theorem lw_p41 : lw_okq (⟨"EnclaveMonitorModel", "quarter", "(IIII)V"⟩, 30) := ⟨⟨by decide +kernel, by decide +kernel⟩, List.mem_of_getElem? (i := 523) (by decide +kernel), List.mem_of_getElem? (i := 741) (by decide +kernel), List.mem_of_getElem? (i := 742) (by decide +kernel)⟩
theorem lw_p42 : lw_okq (⟨"EnclaveMonitorModel", "tag", "()V"⟩, 30) := ⟨⟨by decide +kernel, by decide +kernel⟩, List.mem_of_getElem? (i := 523) (by decide +kernel), List.mem_of_getElem? (i := 745) (by decide +kernel), List.mem_of_getElem? (i := 746) (by decide +kernel)⟩
theorem lw_p43 : lw_okq (⟨"EnclaveMonitorModel", "setSlot", "(IIJ)V"⟩, 30) := ⟨⟨by decide +kernel, by decide +kernel⟩, List.mem_of_getElem? (i := 523) (by decide +kernel), List.mem_of_getElem? (i := 751) (by decide +kernel), List.mem_of_getElem? (i := 752) (by decide +kernel)⟩
def lw_privs_3 : List (MethodName × Nat) := [(⟨"EnclaveMonitorModel", "measured", "(III)V"⟩, 30), (⟨"EnclaveMonitorModel", "at", "(II)I"⟩, 30), (⟨"EnclaveMonitorModel", "owned", "(I)I"⟩, 30), (⟨"EnclaveMonitorModel", "run", "(II)I"⟩, 30), (⟨"EnclaveMonitorModel", "step", "(I)V"⟩, 30), (⟨"EnclaveMonitorModel", "reach", "(III)I"⟩, 30), (⟨"EnclaveMonitorModel", "inSlot", "(II)J"⟩, 30), (⟨"EnclaveMonitorModel", "seal", "([II[II)V"⟩, 30), (⟨"EnclaveMonitorModel", "stream", "(III)V"⟩, 30), (⟨"EnclaveMonitorModel", "quarter", "(IIII)V"⟩, 30), (⟨"EnclaveMonitorModel", "tag", "()V"⟩, 30), (⟨"EnclaveMonitorModel", "setSlot", "(IIJ)V"⟩, 30)]
theorem lw_r3 : ∀ q ∈ lw_privs_3, lw_okq q := List.forall_mem_cons.mpr ⟨lw_p32, List.forall_mem_cons.mpr ⟨lw_p33, List.forall_mem_cons.mpr ⟨lw_p34, List.forall_mem_cons.mpr ⟨lw_p35, List.forall_mem_cons.mpr ⟨lw_p36, List.forall_mem_cons.mpr ⟨lw_p37, List.forall_mem_cons.mpr ⟨lw_p38, List.forall_mem_cons.mpr ⟨lw_p39, List.forall_mem_cons.mpr ⟨lw_p40, List.forall_mem_cons.mpr ⟨lw_p41, List.forall_mem_cons.mpr ⟨lw_p42, List.forall_mem_cons.mpr ⟨lw_p43, fun _ h => absurd h List.not_mem_nil⟩⟩⟩⟩⟩⟩⟩⟩⟩⟩⟩⟩
def lw_privs : List (MethodName × Nat) := lw_privs_1 ++ (lw_privs_2 ++ (lw_privs_3))
def lw_tbl : List Cond := k2_sels lw_privs ++ tables_1
theorem lw_privs_ok : ∀ q ∈ lw_privs, lw_okq q := by
  show ∀ q ∈ lw_privs_1 ++ (lw_privs_2 ++ (lw_privs_3)), lw_okq q
  exact List.forall_mem_append.mpr ⟨lw_r1, List.forall_mem_append.mpr ⟨lw_r2, lw_r3⟩⟩
def RX0 : String := "EnclaveMonitor$Hash"
def TX0 : u_T := fun k => match k with
  | 0 => ("EnclaveMonitor$Hash", "message", "[I", true)
  | 1 => ("EnclaveMonitor$Hash", "schedule", "[I", true)
  | 2 => ("EnclaveMonitor$Hash", "state", "[I", true)
  | _ => ("EnclaveMonitor$Hash", "length", "I", false)
def tyX0 : Nat → FieldType := fun k => match k with
  | 0 => .array .int
  | 1 => .array .int
  | 2 => .array .int
  | _ => .int
abbrev wsX00 : List Cond := u_ws RX0 TX0 4
theorem nmX0 : ∀ a, a < 4 → ∀ b, b < 4 → a ≠ b → (TX0 a).2.1 ≠ (TX0 b).2.1 := by decide +kernel
theorem tyX0_ok : ∀ k, k < 4 → parseFieldDescriptor (TX0 k).2.2.1 = some (tyX0 k) := by decide +kernel
abbrev cX0_init : ByteArray := prog_2_method_1_code
def yX0_init : MethodName := ⟨RX0, "<init>", "()V"⟩
abbrev cX0_begin : ByteArray := prog_2_method_2_code
def yX0_begin : MethodName := ⟨RX0, "begin", "()V"⟩
abbrev cX0_add : ByteArray := prog_2_method_3_code
def yX0_add : MethodName := ⟨RX0, "add", "(I)V"⟩
abbrev cX0_addAll : ByteArray := prog_2_method_4_code
def yX0_addAll : MethodName := ⟨RX0, "addAll", "([II)V"⟩
abbrev cX0_finish : ByteArray := prog_2_method_5_code
def yX0_finish : MethodName := ⟨RX0, "finish", "([II)V"⟩
abbrev cX0_padMessage : ByteArray := prog_2_method_6_code
def yX0_padMessage : MethodName := ⟨RX0, "padMessage", "()I"⟩
abbrev cX0_fillSchedule : ByteArray := prog_2_method_7_code
def yX0_fillSchedule : MethodName := ⟨RX0, "fillSchedule", "(I)V"⟩
abbrev cX0_compress : ByteArray := prog_2_method_8_code
def yX0_compress : MethodName := ⟨RX0, "compress", "()V"⟩
abbrev cX0_turnRight : ByteArray := prog_2_method_9_code
def yX0_turnRight : MethodName := ⟨RX0, "turnRight", "(II)I"⟩
def RX1 : String := "EnclaveMonitor$Page"
def TX1 : u_T := fun k => match k with
  | 0 => ("EnclaveMonitor$Page", "words", "[I", true)
  | 1 => ("EnclaveMonitor$Page", "measured", "[I", true)
  | 2 => ("EnclaveMonitor$Page", "type", "I", false)
  | 3 => ("EnclaveMonitor$Page", "owner", "I", false)
  | 4 => ("EnclaveMonitor$Page", "address", "I", false)
  | 5 => ("EnclaveMonitor$Page", "rights", "I", false)
  | 6 => ("EnclaveMonitor$Page", "ident", "I", false)
  | _ => ("EnclaveMonitor$Page", "state", "I", false)
def tyX1 : Nat → FieldType := fun k => match k with
  | 0 => .array .int
  | 1 => .array .int
  | 2 => .int
  | 3 => .int
  | 4 => .int
  | 5 => .int
  | 6 => .int
  | _ => .int
abbrev wsX10 : List Cond := u_ws RX1 TX1 8
theorem nmX1 : ∀ a, a < 8 → ∀ b, b < 8 → a ≠ b → (TX1 a).2.1 ≠ (TX1 b).2.1 := by decide +kernel
theorem tyX1_ok : ∀ k, k < 8 → parseFieldDescriptor (TX1 k).2.2.1 = some (tyX1 k) := by decide +kernel
abbrev cX1_init : ByteArray := prog_3_method_1_code
def yX1_init : MethodName := ⟨RX1, "<init>", "()V"⟩
abbrev cX1_own : ByteArray := prog_3_method_2_code
def yX1_own : MethodName := ⟨RX1, "own", "(II)V"⟩
abbrev cX1_clear : ByteArray := prog_3_method_3_code
def yX1_clear : MethodName := ⟨RX1, "clear", "()V"⟩
abbrev cX1_isSaved : ByteArray := prog_3_method_4_code
def yX1_isSaved : MethodName := ⟨RX1, "isSaved", "()Z"⟩
abbrev cX1_isDataOf : ByteArray := prog_3_method_5_code
def yX1_isDataOf : MethodName := ⟨RX1, "isDataOf", "(I)Z"⟩
abbrev cX1_numberIn : ByteArray := prog_3_method_6_code
def yX1_numberIn : MethodName := ⟨RX1, "numberIn", "(I)J"⟩
abbrev cX1_setNumber : ByteArray := prog_3_method_7_code
def yX1_setNumber : MethodName := ⟨RX1, "setNumber", "(IJ)V"⟩
abbrev cX1_join : ByteArray := prog_3_method_8_code
def yX1_join : MethodName := ⟨RX1, "join", "(II)J"⟩
def RX2 : String := "EnclaveMonitor$Runner"
def TX2 : u_T := fun k => match k with
  | 0 => ("EnclaveMonitor$Runner", "space", "[LEnclaveMonitor$Page;", true)
  | 1 => ("EnclaveMonitor$Runner", "outcome", "I", false)
  | 2 => ("EnclaveMonitor$Runner", "result", "I", false)
  | 3 => ("EnclaveMonitor$Runner", "faulty", "I", false)
  | _ => ("EnclaveMonitor$Runner", "made", "I", false)
def tyX2 : Nat → FieldType := fun k => match k with
  | 0 => .array (.object "EnclaveMonitor$Page")
  | 1 => .int
  | 2 => .int
  | 3 => .int
  | _ => .int
abbrev wsX20 : List Cond := u_ws RX2 TX2 5
theorem nmX2 : ∀ a, a < 5 → ∀ b, b < 5 → a ≠ b → (TX2 a).2.1 ≠ (TX2 b).2.1 := by decide +kernel
theorem tyX2_ok : ∀ k, k < 5 → parseFieldDescriptor (TX2 k).2.2.1 = some (tyX2 k) := by decide +kernel
abbrev cX2_init : ByteArray := prog_4_method_1_code
def yX2_init : MethodName := ⟨RX2, "<init>", "()V"⟩
abbrev cX2_mapSpace : ByteArray := prog_4_method_2_code
def yX2_mapSpace : MethodName := ⟨RX2, "mapSpace", "([LEnclaveMonitor$Page;I)V"⟩
abbrev cX2_go : ByteArray := prog_4_method_3_code
def yX2_go : MethodName := ⟨RX2, "go", "([I[II)V"⟩
abbrev cX2_forget : ByteArray := prog_4_method_4_code
def yX2_forget : MethodName := ⟨RX2, "forget", "([I)V"⟩
abbrev cX2_step : ByteArray := prog_4_method_5_code
def yX2_step : MethodName := ⟨RX2, "step", "([I[I)I"⟩
abbrev cX2_register : ByteArray := prog_4_method_6_code
def yX2_register : MethodName := ⟨RX2, "register", "(I)I"⟩
abbrev cX2_fetch : ByteArray := prog_4_method_7_code
def yX2_fetch : MethodName := ⟨RX2, "fetch", "([III)Z"⟩
abbrev cX2_store : ByteArray := prog_4_method_8_code
def yX2_store : MethodName := ⟨RX2, "store", "(II)Z"⟩
abbrev cX2_reach : ByteArray := prog_4_method_9_code
def yX2_reach : MethodName := ⟨RX2, "reach", "(II)LEnclaveMonitor$Page;"⟩
def RX3 : String := "EnclaveMonitor$Sealer"
def TX3 : u_T := fun k => match k with
  | 0 => ("EnclaveMonitor$Sealer", "hash", "LEnclaveMonitor$Hash;", true)
  | 1 => ("EnclaveMonitor$Sealer", "key", "[I", true)
  | 2 => ("EnclaveMonitor$Sealer", "mark", "[I", true)
  | 3 => ("EnclaveMonitor$Sealer", "inner", "[I", true)
  | 4 => ("EnclaveMonitor$Sealer", "start", "[I", true)
  | _ => ("EnclaveMonitor$Sealer", "block", "[I", true)
def tyX3 : Nat → FieldType := fun k => match k with
  | 0 => .object "EnclaveMonitor$Hash"
  | 1 => .array .int
  | 2 => .array .int
  | 3 => .array .int
  | 4 => .array .int
  | _ => .array .int
abbrev wsX30 : List Cond := u_ws RX3 TX3 6
theorem nmX3 : ∀ a, a < 6 → ∀ b, b < 6 → a ≠ b → (TX3 a).2.1 ≠ (TX3 b).2.1 := by decide +kernel
theorem tyX3_ok : ∀ k, k < 6 → parseFieldDescriptor (TX3 k).2.2.1 = some (tyX3 k) := by decide +kernel
abbrev cX3_init : ByteArray := prog_5_method_1_code
def yX3_init : MethodName := ⟨RX3, "<init>", "(J)V"⟩
abbrev cX3_derive : ByteArray := prog_5_method_2_code
def yX3_derive : MethodName := ⟨RX3, "derive", "(JI[I)V"⟩
abbrev cX3_sign : ByteArray := prog_5_method_3_code
def yX3_sign : MethodName := ⟨RX3, "sign", "([II[II)V"⟩
abbrev cX3_beginWithMark : ByteArray := prog_5_method_4_code
def yX3_beginWithMark : MethodName := ⟨RX3, "beginWithMark", "(I)V"⟩
abbrev cX3_cover : ByteArray := prog_5_method_5_code
def yX3_cover : MethodName := ⟨RX3, "cover", "([IIII)V"⟩
abbrev cX3_makeBlock : ByteArray := prog_5_method_6_code
def yX3_makeBlock : MethodName := ⟨RX3, "makeBlock", "(III)V"⟩
abbrev cX3_mixQuarter : ByteArray := prog_5_method_7_code
def yX3_mixQuarter : MethodName := ⟨RX3, "mixQuarter", "(IIII)V"⟩
abbrev cX3_turnLeft : ByteArray := prog_5_method_8_code
def yX3_turnLeft : MethodName := ⟨RX3, "turnLeft", "(II)I"⟩
def RX4 : String := "EnclaveMonitor"
def TX4 : u_T := fun k => match k with
  | 0 => ("EnclaveMonitor", "pages", "[LEnclaveMonitor$Page;", true)
  | 1 => ("EnclaveMonitor", "shared", "[I", true)
  | 2 => ("EnclaveMonitor", "dueTag", "[I", true)
  | 3 => ("EnclaveMonitor", "hash", "LEnclaveMonitor$Hash;", true)
  | 4 => ("EnclaveMonitor", "sealer", "LEnclaveMonitor$Sealer;", true)
  | 5 => ("EnclaveMonitor", "runner", "LEnclaveMonitor$Runner;", true)
  | 6 => ("EnclaveMonitor", "lettingGoes", "J", false)
  | 7 => ("EnclaveMonitor", "takingsBack", "I", false)
  | 8 => ("EnclaveMonitor", "wrongTags", "I", false)
  | 9 => ("EnclaveMonitor", "wrongVersions", "I", false)
  | _ => ("EnclaveMonitor", "enclavesCreated", "I", false)
def tyX4 : Nat → FieldType := fun k => match k with
  | 0 => .array (.object "EnclaveMonitor$Page")
  | 1 => .array .int
  | 2 => .array .int
  | 3 => .object "EnclaveMonitor$Hash"
  | 4 => .object "EnclaveMonitor$Sealer"
  | 5 => .object "EnclaveMonitor$Runner"
  | 6 => .long
  | 7 => .int
  | 8 => .int
  | 9 => .int
  | _ => .int
abbrev wsX40 : List Cond := u_ws RX4 TX4 11
theorem nmX4 : ∀ a, a < 11 → ∀ b, b < 11 → a ≠ b → (TX4 a).2.1 ≠ (TX4 b).2.1 := by decide +kernel
theorem tyX4_ok : ∀ k, k < 11 → parseFieldDescriptor (TX4 k).2.2.1 = some (tyX4 k) := by decide +kernel
abbrev cX4_init : ByteArray := prog_1_method_1_code
def yX4_init : MethodName := ⟨RX4, "<init>", "(IJ)V"⟩
abbrev cX4_poke : ByteArray := prog_1_method_2_code
def yX4_poke : MethodName := ⟨RX4, "poke", "(II)V"⟩
abbrev cX4_buffer : ByteArray := prog_1_method_3_code
def yX4_buffer : MethodName := ⟨RX4, "buffer", "(I)I"⟩
abbrev cX4_create : ByteArray := prog_1_method_4_code
def yX4_create : MethodName := ⟨RX4, "create", "(I)I"⟩
abbrev cX4_thread : ByteArray := prog_1_method_5_code
def yX4_thread : MethodName := ⟨RX4, "thread", "(III)I"⟩
abbrev cX4_data : ByteArray := prog_1_method_6_code
def yX4_data : MethodName := ⟨RX4, "data", "(IIII)I"⟩
abbrev cX4_versions : ByteArray := prog_1_method_7_code
def yX4_versions : MethodName := ⟨RX4, "versions", "(I)I"⟩
abbrev cX4_finalise : ByteArray := prog_1_method_8_code
def yX4_finalise : MethodName := ⟨RX4, "finalise", "(I)I"⟩
abbrev cX4_stop : ByteArray := prog_1_method_9_code
def yX4_stop : MethodName := ⟨RX4, "stop", "(I)I"⟩
abbrev cX4_remove : ByteArray := prog_1_method_10_code
def yX4_remove : MethodName := ⟨RX4, "remove", "(I)I"⟩
abbrev cX4_enter : ByteArray := prog_1_method_11_code
def yX4_enter : MethodName := ⟨RX4, "enter", "(IIII)I"⟩
abbrev cX4_resume : ByteArray := prog_1_method_12_code
def yX4_resume : MethodName := ⟨RX4, "resume", "(II)I"⟩
abbrev cX4_told : ByteArray := prog_1_method_13_code
def yX4_told : MethodName := ⟨RX4, "told", "(I)I"⟩
abbrev cX4_evict : ByteArray := prog_1_method_14_code
def yX4_evict : MethodName := ⟨RX4, "evict", "(III)I"⟩
abbrev cX4_reload : ByteArray := prog_1_method_15_code
def yX4_reload : MethodName := ⟨RX4, "reload", "(IIII)I"⟩
abbrev cX4_page : ByteArray := prog_1_method_16_code
def yX4_page : MethodName := ⟨RX4, "page", "(II)I"⟩
abbrev cX4_measure : ByteArray := prog_1_method_17_code
def yX4_measure : MethodName := ⟨RX4, "measure", "(II)I"⟩
abbrev cX4_slot : ByteArray := prog_1_method_18_code
def yX4_slot : MethodName := ⟨RX4, "slot", "(II)J"⟩
abbrev cX4_count : ByteArray := prog_1_method_19_code
def yX4_count : MethodName := ⟨RX4, "count", "(I)I"⟩
abbrev cX4_isWithin : ByteArray := prog_1_method_20_code
def yX4_isWithin : MethodName := ⟨RX4, "isWithin", "(II)Z"⟩
abbrev cX4_isOfType : ByteArray := prog_1_method_21_code
def yX4_isOfType : MethodName := ⟨RX4, "isOfType", "(II)Z"⟩
abbrev cX4_stateOf : ByteArray := prog_1_method_22_code
def yX4_stateOf : MethodName := ⟨RX4, "stateOf", "(I)I"⟩
abbrev cX4_pagesOfType : ByteArray := prog_1_method_23_code
def yX4_pagesOfType : MethodName := ⟨RX4, "pagesOfType", "(I)I"⟩
abbrev cX4_ownedBy : ByteArray := prog_1_method_24_code
def yX4_ownedBy : MethodName := ⟨RX4, "ownedBy", "(I)I"⟩
abbrev cX4_hasAddress : ByteArray := prog_1_method_25_code
def yX4_hasAddress : MethodName := ⟨RX4, "hasAddress", "(II)Z"⟩
abbrev cX4_whyNotAdded : ByteArray := prog_1_method_26_code
def yX4_whyNotAdded : MethodName := ⟨RX4, "whyNotAdded", "(II)I"⟩
abbrev cX4_extendMeasure : ByteArray := prog_1_method_27_code
def yX4_extendMeasure : MethodName := ⟨RX4, "extendMeasure", "(LEnclaveMonitor$Page;LEnclaveMonitor$Page;I)V"⟩
abbrev cX4_isRemovable : ByteArray := prog_1_method_28_code
def yX4_isRemovable : MethodName := ⟨RX4, "isRemovable", "(I)Z"⟩
abbrev cX4_whyNotRun : ByteArray := prog_1_method_29_code
def yX4_whyNotRun : MethodName := ⟨RX4, "whyNotRun", "(IZI)I"⟩
abbrev cX4_runThread : ByteArray := prog_1_method_30_code
def yX4_runThread : MethodName := ⟨RX4, "runThread", "(II)I"⟩
abbrev cX4_whyNotEvicted : ByteArray := prog_1_method_31_code
def yX4_whyNotEvicted : MethodName := ⟨RX4, "whyNotEvicted", "(III)I"⟩
abbrev cX4_whyNotReloaded : ByteArray := prog_1_method_32_code
def yX4_whyNotReloaded : MethodName := ⟨RX4, "whyNotReloaded", "(IIII)I"⟩
abbrev cX4_isTagged : ByteArray := prog_1_method_33_code
def yX4_isTagged : MethodName := ⟨RX4, "isTagged", "()Z"⟩
abbrev cX4_writeBlob : ByteArray := prog_1_method_34_code
def yX4_writeBlob : MethodName := ⟨RX4, "writeBlob", "(LEnclaveMonitor$Page;J)V"⟩
abbrev cX4_readBlob : ByteArray := prog_1_method_35_code
def yX4_readBlob : MethodName := ⟨RX4, "readBlob", "(LEnclaveMonitor$Page;I)V"⟩
def RX5 : String := "EnclaveMonitorModel"
def TX5 : u_T := fun k => match k with
  | 0 => ("EnclaveMonitorModel", "thrown", "I", false)
  | 1 => ("EnclaveMonitorModel", "many", "I", true)
  | 2 => ("EnclaveMonitorModel", "type", "[I", true)
  | 3 => ("EnclaveMonitorModel", "owner", "[I", true)
  | 4 => ("EnclaveMonitorModel", "address", "[I", true)
  | 5 => ("EnclaveMonitorModel", "rights", "[I", true)
  | 6 => ("EnclaveMonitorModel", "ident", "[I", true)
  | 7 => ("EnclaveMonitorModel", "state", "[I", true)
  | 8 => ("EnclaveMonitorModel", "words", "[I", true)
  | 9 => ("EnclaveMonitorModel", "measures", "[I", true)
  | 10 => ("EnclaveMonitorModel", "buffer", "[I", true)
  | 11 => ("EnclaveMonitorModel", "key", "[I", true)
  | 12 => ("EnclaveMonitorModel", "mark", "[I", true)
  | 13 => ("EnclaveMonitorModel", "idents", "I", false)
  | 14 => ("EnclaveMonitorModel", "tags", "I", false)
  | 15 => ("EnclaveMonitorModel", "wrongs", "I", false)
  | 16 => ("EnclaveMonitorModel", "taken", "I", false)
  | 17 => ("EnclaveMonitorModel", "letGo", "J", false)
  | 18 => ("EnclaveMonitorModel", "message", "[I", true)
  | 19 => ("EnclaveMonitorModel", "hash", "[I", true)
  | 20 => ("EnclaveMonitorModel", "wide", "[I", true)
  | 21 => ("EnclaveMonitorModel", "turn", "[I", true)
  | 22 => ("EnclaveMonitorModel", "start", "[I", true)
  | 23 => ("EnclaveMonitorModel", "stream", "[I", true)
  | 24 => ("EnclaveMonitorModel", "\x72", "[I", true)
  | 25 => ("EnclaveMonitorModel", "pc", "I", false)
  | 26 => ("EnclaveMonitorModel", "made", "I", false)
  | 27 => ("EnclaveMonitorModel", "ended", "I", false)
  | 28 => ("EnclaveMonitorModel", "gave", "I", false)
  | _ => ("EnclaveMonitorModel", "faulted", "I", false)
def tyX5 : Nat → FieldType := fun k => match k with
  | 0 => .int
  | 1 => .int
  | 2 => .array .int
  | 3 => .array .int
  | 4 => .array .int
  | 5 => .array .int
  | 6 => .array .int
  | 7 => .array .int
  | 8 => .array .int
  | 9 => .array .int
  | 10 => .array .int
  | 11 => .array .int
  | 12 => .array .int
  | 13 => .int
  | 14 => .int
  | 15 => .int
  | 16 => .int
  | 17 => .long
  | 18 => .array .int
  | 19 => .array .int
  | 20 => .array .int
  | 21 => .array .int
  | 22 => .array .int
  | 23 => .array .int
  | 24 => .array .int
  | 25 => .int
  | 26 => .int
  | 27 => .int
  | 28 => .int
  | _ => .int
abbrev wsX50 : List Cond := u_ws RX5 TX5 30
theorem nmX5 : ∀ a, a < 30 → ∀ b, b < 30 → a ≠ b → (TX5 a).2.1 ≠ (TX5 b).2.1 := by decide +kernel
theorem tyX5_ok : ∀ k, k < 30 → parseFieldDescriptor (TX5 k).2.2.1 = some (tyX5 k) := by decide +kernel
abbrev cX5_init : ByteArray := prog_7_method_1_code
def yX5_init : MethodName := ⟨RX5, "<init>", "(IJ)V"⟩
abbrev cX5_thrown : ByteArray := prog_7_method_2_code
def yX5_thrown : MethodName := ⟨RX5, "thrown", "()I"⟩
abbrev cX5_right : ByteArray := prog_7_method_3_code
def yX5_right : MethodName := ⟨RX5, "right", "(II)I"⟩
abbrev cX5_digest : ByteArray := prog_7_method_4_code
def yX5_digest : MethodName := ⟨RX5, "digest", "(I)V"⟩
abbrev cX5_block : ByteArray := prog_7_method_5_code
def yX5_block : MethodName := ⟨RX5, "block", "(I)V"⟩
abbrev cX5_tag : ByteArray := prog_7_method_6_code
def yX5_tag : MethodName := ⟨RX5, "tag", "()V"⟩
abbrev cX5_quarter : ByteArray := prog_7_method_7_code
def yX5_quarter : MethodName := ⟨RX5, "quarter", "(IIII)V"⟩
abbrev cX5_stream : ByteArray := prog_7_method_8_code
def yX5_stream : MethodName := ⟨RX5, "stream", "(III)V"⟩
abbrev cX5_seal : ByteArray := prog_7_method_9_code
def yX5_seal : MethodName := ⟨RX5, "seal", "([II[II)V"⟩
abbrev cX5_isOf : ByteArray := prog_7_method_10_code
def yX5_isOf : MethodName := ⟨RX5, "isOf", "(II)Z"⟩
abbrev cX5_owned : ByteArray := prog_7_method_11_code
def yX5_owned : MethodName := ⟨RX5, "owned", "(I)I"⟩
abbrev cX5_becomes : ByteArray := prog_7_method_12_code
def yX5_becomes : MethodName := ⟨RX5, "becomes", "(II)V"⟩
abbrev cX5_poke : ByteArray := prog_7_method_13_code
def yX5_poke : MethodName := ⟨RX5, "poke", "(II)V"⟩
abbrev cX5_buffer : ByteArray := prog_7_method_14_code
def yX5_buffer : MethodName := ⟨RX5, "buffer", "(I)I"⟩
abbrev cX5_create : ByteArray := prog_7_method_15_code
def yX5_create : MethodName := ⟨RX5, "create", "(I)I"⟩
abbrev cX5_measured : ByteArray := prog_7_method_16_code
def yX5_measured : MethodName := ⟨RX5, "measured", "(III)V"⟩
abbrev cX5_thread : ByteArray := prog_7_method_17_code
def yX5_thread : MethodName := ⟨RX5, "thread", "(III)I"⟩
abbrev cX5_at : ByteArray := prog_7_method_18_code
def yX5_at : MethodName := ⟨RX5, "at", "(II)I"⟩
abbrev cX5_data : ByteArray := prog_7_method_19_code
def yX5_data : MethodName := ⟨RX5, "data", "(IIII)I"⟩
abbrev cX5_versions : ByteArray := prog_7_method_20_code
def yX5_versions : MethodName := ⟨RX5, "versions", "(I)I"⟩
abbrev cX5_finalise : ByteArray := prog_7_method_21_code
def yX5_finalise : MethodName := ⟨RX5, "finalise", "(I)I"⟩
abbrev cX5_stop : ByteArray := prog_7_method_22_code
def yX5_stop : MethodName := ⟨RX5, "stop", "(I)I"⟩
abbrev cX5_remove : ByteArray := prog_7_method_23_code
def yX5_remove : MethodName := ⟨RX5, "remove", "(I)I"⟩
abbrev cX5_enter : ByteArray := prog_7_method_24_code
def yX5_enter : MethodName := ⟨RX5, "enter", "(IIII)I"⟩
abbrev cX5_resume : ByteArray := prog_7_method_25_code
def yX5_resume : MethodName := ⟨RX5, "resume", "(II)I"⟩
abbrev cX5_run : ByteArray := prog_7_method_26_code
def yX5_run : MethodName := ⟨RX5, "run", "(II)I"⟩
abbrev cX5_reach : ByteArray := prog_7_method_27_code
def yX5_reach : MethodName := ⟨RX5, "reach", "(III)I"⟩
abbrev cX5_step : ByteArray := prog_7_method_28_code
def yX5_step : MethodName := ⟨RX5, "step", "(I)V"⟩
abbrev cX5_told : ByteArray := prog_7_method_29_code
def yX5_told : MethodName := ⟨RX5, "told", "(I)I"⟩
abbrev cX5_inSlot : ByteArray := prog_7_method_30_code
def yX5_inSlot : MethodName := ⟨RX5, "inSlot", "(II)J"⟩
abbrev cX5_setSlot : ByteArray := prog_7_method_31_code
def yX5_setSlot : MethodName := ⟨RX5, "setSlot", "(IIJ)V"⟩
abbrev cX5_evict : ByteArray := prog_7_method_32_code
def yX5_evict : MethodName := ⟨RX5, "evict", "(III)I"⟩
abbrev cX5_reload : ByteArray := prog_7_method_33_code
def yX5_reload : MethodName := ⟨RX5, "reload", "(IIII)I"⟩
abbrev cX5_page : ByteArray := prog_7_method_34_code
def yX5_page : MethodName := ⟨RX5, "page", "(II)I"⟩
abbrev cX5_measure : ByteArray := prog_7_method_35_code
def yX5_measure : MethodName := ⟨RX5, "measure", "(II)I"⟩
abbrev cX5_slot : ByteArray := prog_7_method_36_code
def yX5_slot : MethodName := ⟨RX5, "slot", "(II)J"⟩
abbrev cX5_count : ByteArray := prog_7_method_37_code
def yX5_count : MethodName := ⟨RX5, "count", "(I)I"⟩
def RL : String := "EnclaveMonitorLaw"
abbrev cL_cell : ByteArray := method_2_code
def yL_cell : MethodName := ⟨RL, "cell", "([II)I"⟩
abbrev cL_poke : ByteArray := method_3_code
def yL_poke : MethodName := ⟨RL, "poke", "(LEnclaveMonitor;II)I"⟩
abbrev cL_buffer : ByteArray := method_4_code
def yL_buffer : MethodName := ⟨RL, "buffer", "(LEnclaveMonitor;I[J)I"⟩
abbrev cL_law : ByteArray := code
def yL_law : MethodName := ⟨RL, "law", "([I)Z"⟩
abbrev vwCl : List vw_C := [(RX0, TX0, 4), (RX1, TX1, 8), (RX2, TX2, 5), (RX3, TX3, 6), (RX4, TX4, 11), (RX5, TX5, 30)]
end
section
/-! A PURE EVALUATOR of the bytecode that the system uses: frames of one method at a time, calls by a relation; its soundness over the machine is the next part's. -/
/-- a cell: an object (number of its sort, fields), or an array: ints, longs, references -/
abbrev e_O : Type := (Nat × List Value) ⊕ ((Nat × (Nat → Int32)) ⊕ ((Nat × (Nat → Int64)) ⊕ (Nat × (Nat → Option Nat))))
/-- a heap: cells; and, while cells may be made, the heap's size and the slots that are used -/
abbrev e_H : Type := (Nat → Option e_O) × Option (Nat × Nat)
abbrev e_L : Type := List (Option Value)
/-- an entry of a method's table: instruction, next pc, two numbers, a value, a list of targets -/
abbrev e_E : Type := Instr × Nat × Nat × Nat × Value × List Nat
/-- a method: own sort's name, name, bytes, locals, answer's type; its table -/
abbrev e_M : Type := (String × MethodName × ByteArray × Nat × Option FieldType) × List (Nat × e_E)
abbrev e_C : Type := Nat × e_L × List Value × e_H
abbrev e_R : Type := e_C ⊕ (Option Value ⊕ (Nat × List Value × Nat × e_L × List Value))
def ev_fnd : List (Nat × e_E) → Nat → Option e_E
  | [], _ => none
  | e :: r, pc => cond (Nat.beq e.1 pc) (some e.2) (ev_fnd r pc)
def ev_up (h : e_H) (a : Nat) (o : e_O) : e_H := (fun b => cond (Nat.beq b a) (some o) (h.1 b), h.2)
def ev_kd : Value → Nat
  | .int _ => 0
  | .long _ => 1
  | .null => 2
  | .ref _ => 2
  | _ => 3
def ev_ld (lo : e_L) (i k : Nat) : Option Value := match lo[i]? with
  | some (some w) => cond (Nat.beq (ev_kd w) k) (some w) none
  | _ => none
/-- the place ahead holds nothing of two places -/
def ev_nc1 (lo : e_L) (j : Nat) : Bool := match lo[j]? with
  | some (some w) => Nat.beq w.category 1
  | _ => true
def ev_nc (lo : e_L) : Nat → Bool
  | 0 => true
  | j + 1 => ev_nc1 lo j
def ev_go (nx : Nat) (lo : e_L) (sk : List Value) (h : e_H) : Option e_R := some (.inl (nx, lo, sk, h))
def ev_load (k : Nat) (nx i : Nat) (lo : e_L) (sk : List Value) (h : e_H) : Option e_R := match ev_ld lo i k with
  | some w => ev_go nx lo (w :: sk) h
  | none => none
def ev_store (k : Nat) (nx i : Nat) (lo : e_L) (sk : List Value) (h : e_H) : Option e_R := match sk with
  | w :: r => cond (Nat.beq (ev_kd w) k && (Nat.blt i lo.length && ev_nc lo i)) (ev_go nx (lo.set i (some w)) r h) none
  | _ => none
def ev_storeL (nx i : Nat) (lo : e_L) (sk : List Value) (h : e_H) : Option e_R := match sk with
  | .long x :: r => cond (Nat.blt (i + 1) lo.length && ev_nc lo i) (ev_go nx ((lo.set i (some (.long x))).set (i + 1) none) r h) none
  | _ => none
def ev_inc (nx i : Nat) (v : Value) (lo : e_L) (sk : List Value) (h : e_H) : Option e_R := match ev_ld lo i 0, v with
  | some (.int x), .int c => cond (ev_nc lo i) (ev_go nx (lo.set i (some (.int (x + c)))) sk h) none
  | _, _ => none
def ev_bin (f : Int32 → Int32 → Int32) (nx : Nat) (lo : e_L) (sk : List Value) (h : e_H) : Option e_R := match sk with
  | .int y :: .int x :: r => ev_go nx lo (.int (f x y) :: r) h
  | _ => none
def ev_un (f : Int32 → Value) (nx : Nat) (lo : e_L) (sk : List Value) (h : e_H) : Option e_R := match sk with
  | .int x :: r => ev_go nx lo (f x :: r) h
  | _ => none
def ev_binL (f : Int64 → Int64 → Value) (nx : Nat) (lo : e_L) (sk : List Value) (h : e_H) : Option e_R := match sk with
  | .long y :: .long x :: r => ev_go nx lo (f x y :: r) h
  | _ => none
def ev_shL (f : Int64 → Int32 → Int64) (nx : Nat) (lo : e_L) (sk : List Value) (h : e_H) : Option e_R := match sk with
  | .int y :: .long x :: r => ev_go nx lo (.long (f x y) :: r) h
  | _ => none
def ev_div (q : Bool) (nx : Nat) (lo : e_L) (sk : List Value) (h : e_H) : Option e_R := match sk with
  | .int y :: .int x :: r => cond (decide (y = 0)) none (ev_go nx lo (.int (cond q (x / y) (x - x / y * y)) :: r) h)
  | _ => none
def ev_cmp (c : ClassFile.Cond) (x y : Int32) : Bool := match c with
  | .eq => decide (x = y)
  | .ne => decide (x ≠ y)
  | .lt => decide (x < y)
  | .ge => decide (y ≤ x)
  | .gt => decide (y < x)
  | .le => decide (x ≤ y)
def ev_tsw (ts : List Nat) (x : Int32) : Nat := match ts with
  | [] => 0
  | df :: tg => if 0 ≤ x.toInt ∧ x.toInt < (tg.length : Int) then tg.getD x.toInt.toNat df else df
def ev_in (i : Int32) (n : Nat) : Bool := decide (¬ i < 0) && Nat.blt i.toNatClampNeg n
def ev_sum (sk : List Value) : Nat := (sk.map fun v => v.category).sum
/-- a new cell -/
def ev_new (h : e_H) (o : e_O) (n : Nat) : Option (Nat × e_H) := match h.2 with
  | some (z, u) => some (z, (fun b => cond (Nat.beq b z) (some o) (h.1 b), some (z + 1, u + n)))
  | none => none
def ev_obj (h : e_H) (a ci : Nat) : Option (List Value) := match h.1 a with
  | some (.inl (c, fs)) => cond (Nat.beq c ci) (some fs) none
  | _ => none
def ev_ia (h : e_H) (a : Nat) : Option (Nat × (Nat → Int32)) := match h.1 a with
  | some (.inr (.inl x)) => some x
  | _ => none
def ev_la (h : e_H) (a : Nat) : Option (Nat × (Nat → Int64)) := match h.1 a with
  | some (.inr (.inr (.inl x))) => some x
  | _ => none
def ev_ra (h : e_H) (a : Nat) : Option (Nat × (Nat → Option Nat)) := match h.1 a with
  | some (.inr (.inr (.inr x))) => some x
  | _ => none
def ev_len (h : e_H) (a : Nat) : Option Nat := match h.1 a with
  | some (.inr (.inl x)) => some x.1
  | some (.inr (.inr (.inl x))) => some x.1
  | some (.inr (.inr (.inr x))) => some x.1
  | _ => none
/-- the kinds of fields, and what they hold at first -/
def ev_z (n : Nat) : Value := if n = 0 then .int 0 else if n = 1 then .long 0 else .null
def ev_get (x1 x2 nx : Nat) (lo : e_L) (sk : List Value) (h : e_H) : Option e_R := match sk with
  | .ref a :: r => match ev_obj h a x1 with
    | some fs => match fs[x2]? with
      | some w => ev_go nx lo (w :: r) h
      | none => none
    | none => none
  | _ => none
def ev_put (bs : Nat) (v : Value) (x1 x2 nx : Nat) (lo : e_L) (sk : List Value) (h : e_H) : Option e_R := match sk with
  | w :: .ref a :: r => match ev_obj h a x1 with
    | some fs => cond (Nat.ble bs a && (Nat.blt x2 fs.length && Nat.beq (ev_kd w) (ev_kd v))) (ev_go nx lo r (ev_up h a (.inl (x1, fs.set x2 w)))) none
    | none => none
  | _ => none
def ev_iald (nx : Nat) (lo : e_L) (sk : List Value) (h : e_H) : Option e_R := match sk with
  | .int i :: .ref a :: r => match ev_ia h a with
    | some x => cond (ev_in i x.1) (ev_go nx lo (.int (x.2 i.toNatClampNeg) :: r) h) none
    | none => none
  | _ => none
def ev_iast (bs nx : Nat) (lo : e_L) (sk : List Value) (h : e_H) : Option e_R := match sk with
  | .int w :: .int i :: .ref a :: r => match ev_ia h a with
    | some x => cond (Nat.ble bs a && ev_in i x.1) (ev_go nx lo r (ev_up h a (.inr (.inl (x.1, upd x.2 i.toNatClampNeg w))))) none
    | none => none
  | _ => none
def ev_lald (nx : Nat) (lo : e_L) (sk : List Value) (h : e_H) : Option e_R := match sk with
  | .int i :: .ref a :: r => match ev_la h a with
    | some x => cond (ev_in i x.1) (ev_go nx lo (.long (x.2 i.toNatClampNeg) :: r) h) none
    | none => none
  | _ => none
def ev_last (bs nx : Nat) (lo : e_L) (sk : List Value) (h : e_H) : Option e_R := match sk with
  | .long w :: .int i :: .ref a :: r => match ev_la h a with
    | some x => cond (Nat.ble bs a && ev_in i x.1) (ev_go nx lo r (ev_up h a (.inr (.inr (.inl (x.1, vp_updL x.2 i.toNatClampNeg w)))))) none
    | none => none
  | _ => none
def ev_aald (nx : Nat) (lo : e_L) (sk : List Value) (h : e_H) : Option e_R := match sk with
  | .int i :: .ref a :: r => match ev_ra h a with
    | some x => cond (ev_in i x.1) (ev_go nx lo (va_rf (x.2 i.toNatClampNeg) :: r) h) none
    | none => none
  | _ => none
/-- a reference into an array: null, or an object of sort x1 -/
def ev_aast (bs x1 nx : Nat) (lo : e_L) (sk : List Value) (h : e_H) : Option e_R := match sk with
  | .null :: .int i :: .ref a :: r => match ev_ra h a with
    | some x => cond (Nat.ble bs a && ev_in i x.1) (ev_go nx lo r (ev_up h a (.inr (.inr (.inr (x.1, va_up x.2 i.toNatClampNeg none)))))) none
    | none => none
  | .ref b :: .int i :: .ref a :: r => match ev_ra h a, ev_obj h b x1 with
    | some x, some _ => cond (Nat.ble bs a && ev_in i x.1) (ev_go nx lo r (ev_up h a (.inr (.inr (.inr (x.1, va_up x.2 i.toNatClampNeg (some b))))))) none
    | _, _ => none
  | _ => none
def ev_alen (nx : Nat) (lo : e_L) (sk : List Value) (h : e_H) : Option e_R := match sk with
  | .ref a :: r => match ev_len h a with
    | some n => ev_go nx lo (.int (Int32.ofNat n) :: r) h
    | none => none
  | _ => none
def ev_newa (o : Nat → e_O) (nx : Nat) (lo : e_L) (sk : List Value) (h : e_H) : Option e_R := match sk with
  | .int n :: r => cond (decide (¬ n < 0) && Nat.ble n.toNatClampNeg 5000) (match ev_new h (o n.toNatClampNeg) n.toNatClampNeg with
    | some (z, h') => ev_go nx lo (.ref z :: r) h'
    | none => none) none
  | _ => none
def ev_cpy (bs nx : Nat) (lo : e_L) (sk : List Value) (h : e_H) : Option e_R := match sk with
  | .int n :: .int dp :: .ref a :: .int sp :: .ref a0 :: r => match ev_ia h a0, ev_ia h a with
    | some x, some y => cond (Nat.ble bs a && (Nat.ble (ev_sum r) 8 && (decide (¬ sp < 0) && (decide (¬ dp < 0) && (decide (¬ n < 0) && (Nat.ble (sp.toNatClampNeg + n.toNatClampNeg) x.1 && Nat.ble (dp.toNatClampNeg + n.toNatClampNeg) y.1))))))
        (ev_go nx lo r (ev_up h a (.inr (.inl (y.1, va_cpy x.2 y.2 sp.toNatClampNeg dp.toNatClampNeg n.toNatClampNeg))))) none
    | _, _ => none
  | _ => none
/-- a call of the method x1 with x2 arguments (the receiver not counted): static, of a constructor, of an object of sort ts -/
def ev_callS (x1 x2 nx : Nat) (lo : e_L) (sk : List Value) : Option e_R :=
  cond (Nat.ble x2 sk.length && Nat.ble (ev_sum (sk.drop x2)) 8) (some (.inr (.inr (x1, (sk.take x2).reverse, nx, lo, sk.drop x2)))) none
def ev_callI (x1 x2 nx : Nat) (lo : e_L) (sk : List Value) : Option e_R := match sk.drop x2 with
  | .ref b :: r => cond (Nat.ble x2 sk.length && Nat.ble (ev_sum r) 8) (some (.inr (.inr (x1, .ref b :: (sk.take x2).reverse, nx, lo, r)))) none
  | _ => none
def ev_callV (x1 x2 nx : Nat) (ts : List Nat) (lo : e_L) (sk : List Value) (h : e_H) : Option e_R := match sk.drop x2, ts with
  | .ref b :: r, [ci] => match ev_obj h b ci with
    | some _ => cond (Nat.ble x2 sk.length && Nat.ble (ev_sum r) 8) (some (.inr (.inr (x1, .ref b :: (sk.take x2).reverse, nx, lo, r)))) none
    | none => none
  | _, _ => none
def ev_oin (nx : Nat) (lo : e_L) (sk : List Value) (h : e_H) : Option e_R := match sk with
  | .ref _ :: r => cond (Nat.ble (ev_sum r) 8) (ev_go nx lo r h) none
  | _ => none
def ev_nob (o : e_O) (n nx : Nat) (lo : e_L) (sk : List Value) (h : e_H) : Option e_R := match ev_new h o n with
  | some (z, h') => ev_go nx lo (.ref z :: sk) h'
  | none => none
def ev_rk : FieldType → Nat
  | .long => 1
  | .object _ => 2
  | .array _ => 2
  | .float => 9
  | .double => 9
  | _ => 0
def ev_ret (k : Nat) (rt : Option FieldType) (sk : List Value) : Option e_R := match sk, rt with
  | [w], some ty => cond (Nat.beq (ev_kd w) k && (Nat.beq (ev_rk ty) k && decide (narrow ty w = w))) (some (.inr (.inl (some w)))) none
  | _, _ => none
def ev_rtv (rt : Option FieldType) (sk : List Value) : Option e_R := match sk, rt with
  | [], none => some (.inr (.inl none))
  | _, _ => none
def ev_l2i (nx : Nat) (lo : e_L) (sk : List Value) (h : e_H) : Option e_R := match sk with
  | .long x :: r => ev_go nx lo (.int x.toInt32 :: r) h
  | _ => none
def ev_dup (nx : Nat) (lo : e_L) (sk : List Value) (h : e_H) : Option e_R := match sk with
  | w :: r => cond (Nat.beq w.category 1) (ev_go nx lo (w :: w :: r) h) none
  | _ => none
def ev_dup2 (nx : Nat) (lo : e_L) (sk : List Value) (h : e_H) : Option e_R := match sk with
  | w :: u :: r => cond (Nat.beq w.category 1 && Nat.beq u.category 1) (ev_go nx lo (w :: u :: w :: u :: r) h) none
  | _ => none
def ev_icm (c : ClassFile.Cond) (x1 nx : Nat) (lo : e_L) (sk : List Value) (h : e_H) : Option e_R := match sk with
  | .int y :: .int x :: r => ev_go (cond (ev_cmp c x y) x1 nx) lo r h
  | _ => none
def ev_ifc (c : ClassFile.Cond) (x1 nx : Nat) (lo : e_L) (sk : List Value) (h : e_H) : Option e_R := match sk with
  | .int x :: r => ev_go (cond (ev_cmp c x 0) x1 nx) lo r h
  | _ => none
/-- x1: if it is null -/
def ev_ifn (x1 nx : Nat) (lo : e_L) (sk : List Value) (h : e_H) : Option e_R := match sk with
  | .null :: r => ev_go x1 lo r h
  | .ref _ :: r => ev_go nx lo r h
  | _ => none
def ev_tss (ts : List Nat) (lo : e_L) (sk : List Value) (h : e_H) : Option e_R := match sk with
  | .int x :: r => ev_go (ev_tsw ts x) lo r h
  | _ => none
def ev_ins (bs : Nat) (sa : Nat → Nat) (rt : Option FieldType) (nx x1 x2 : Nat) (v : Value) (ts : List Nat) (lo : e_L) (sk : List Value) (h : e_H) (i : Instr) : Option e_R := match i with
  | .iconst _ => ev_go nx lo (v :: sk) h
  | .bipush _ => ev_go nx lo (v :: sk) h
  | .sipush _ => ev_go nx lo (v :: sk) h
  | .lconst _ => ev_go nx lo (v :: sk) h
  | .ldc _ => ev_go nx lo (v :: sk) h
  | .ldc2_w _ => ev_go nx lo (v :: sk) h
  | .aconst_null => ev_go nx lo (.null :: sk) h
  | .iload_n _ => ev_load 0 nx x1 lo sk h
  | .iload _ => ev_load 0 nx x1 lo sk h
  | .lload_n _ => ev_load 1 nx x1 lo sk h
  | .lload _ => ev_load 1 nx x1 lo sk h
  | .aload_n _ => ev_load 2 nx x1 lo sk h
  | .aload _ => ev_load 2 nx x1 lo sk h
  | .istore_n _ => ev_store 0 nx x1 lo sk h
  | .istore _ => ev_store 0 nx x1 lo sk h
  | .lstore_n _ => ev_storeL nx x1 lo sk h
  | .lstore _ => ev_storeL nx x1 lo sk h
  | .astore_n _ => ev_store 2 nx x1 lo sk h
  | .astore _ => ev_store 2 nx x1 lo sk h
  | .iinc _ _ => ev_inc nx x1 v lo sk h
  | .iadd => ev_bin (fun x y => x + y) nx lo sk h
  | .isub => ev_bin (fun x y => x - y) nx lo sk h
  | .imul => ev_bin (fun x y => x * y) nx lo sk h
  | .iand => ev_bin (fun x y => x &&& y) nx lo sk h
  | .ior => ev_bin (fun x y => x ||| y) nx lo sk h
  | .ixor => ev_bin (fun x y => x ^^^ y) nx lo sk h
  | .ishl => ev_bin (fun x y => x <<< (y &&& 31)) nx lo sk h
  | .ishr => ev_bin (fun x y => x >>> (y &&& 31)) nx lo sk h
  | .iushr => ev_bin (fun x y => (x.toUInt32 >>> (y.toUInt32 &&& Int32.toUInt32 31)).toInt32) nx lo sk h
  | .idiv => ev_div true nx lo sk h
  | .irem => ev_div false nx lo sk h
  | .ineg => ev_un (fun x => .int (-x)) nx lo sk h
  | .i2l => ev_un (fun x => .long x.toInt64) nx lo sk h
  | .i2s => ev_un (fun x => .int x.toInt16.toInt32) nx lo sk h
  | .l2i => ev_l2i nx lo sk h
  | .ladd => ev_binL (fun x y => .long (x + y)) nx lo sk h
  | .land => ev_binL (fun x y => .long (x &&& y)) nx lo sk h
  | .lor => ev_binL (fun x y => .long (x ||| y)) nx lo sk h
  | .lcmp => ev_binL (fun x y => .int (lg_cmp x y)) nx lo sk h
  | .lshl => ev_shL (fun x y => x <<< (y.toInt64 &&& 63)) nx lo sk h
  | .lshr => ev_shL (fun x y => x >>> (y.toInt64 &&& 63)) nx lo sk h
  | .lushr => ev_shL (fun x y => (x.toUInt64 >>> (y.toInt64.toUInt64 &&& Int64.toUInt64 63)).toInt64) nx lo sk h
  | .dup => ev_dup nx lo sk h
  | .dup2 => ev_dup2 nx lo sk h
  | .if_icmp c _ => ev_icm c x1 nx lo sk h
  | .ifCond c _ => ev_ifc c x1 nx lo sk h
  | .ifnull _ => ev_ifn x1 nx lo sk h
  | .ifnonnull _ => ev_ifn nx x1 lo sk h
  | .goto _ => ev_go x1 lo sk h
  | .tableswitch _ _ _ _ => ev_tss ts lo sk h
  | .getfield _ => ev_get x1 x2 nx lo sk h
  | .putfield _ => ev_put bs v x1 x2 nx lo sk h
  | .getstatic _ => ev_go nx lo (.ref (sa x1) :: sk) h
  | .iaload => ev_iald nx lo sk h
  | .iastore => ev_iast bs nx lo sk h
  | .laload => ev_lald nx lo sk h
  | .lastore => ev_last bs nx lo sk h
  | .aaload => ev_aald nx lo sk h
  | .aastore => ev_aast bs 1 nx lo sk h
  | .arraylength => ev_alen nx lo sk h
  | .newarray .int => ev_newa (fun n => .inr (.inl (n, fun _ => 0))) nx lo sk h
  | .newarray .long => ev_newa (fun n => .inr (.inr (.inl (n, fun _ => 0)))) nx lo sk h
  | .anewarray _ => ev_newa (fun n => .inr (.inr (.inr (n, fun _ => none)))) nx lo sk h
  | .new _ => ev_nob (.inl (x1, ts.map ev_z)) x2 nx lo sk h
  | .invokestatic _ => if x1 = 1001 then ev_cpy bs nx lo sk h else ev_callS x1 x2 nx lo sk
  | .invokespecial _ => if x1 = 1000 then ev_oin nx lo sk h else ev_callI x1 x2 nx lo sk
  | .invokevirtual _ => ev_callV x1 x2 nx ts lo sk h
  | .ireturn => ev_ret 0 rt sk
  | .lreturn => ev_ret 1 rt sk
  | .areturn => ev_ret 2 rt sk
  | .return_ => ev_rtv rt sk
  | _ => none
def ev_stp (bs : Nat) (sa : Nat → Nat) (T : e_M) (cf : e_C) : Option e_R := match ev_fnd T.2 cf.1 with
  | some (i, nx, x1, x2, v, ts) => ev_ins bs sa T.1.2.2.2.2 nx x1 x2 v ts cf.2.1 cf.2.2.1 cf.2.2.2 i
  | none => none
/-- n steps at most, to an end that E names: a place in the frame, or the method's answer; calls go by K -/
def ev_rch (bs : Nat) (sa : Nat → Nat) (K : Nat → List Value → e_H → Option Value → e_H → Prop) (T : e_M) (E : e_C ⊕ (Option Value × e_H) → Prop) : Nat → e_C → Prop
  | 0, cf => E (.inl cf)
  | n + 1, cf => E (.inl cf) ∨ match ev_stp bs sa T cf with
    | some (.inl cf') => ev_rch bs sa K T E n cf'
    | some (.inr (.inl v)) => E (.inr (v, cf.2.2.2))
    | some (.inr (.inr (y, as, nx, lo, r))) => ∃ v h', K y as cf.2.2.2 v h' ∧ ev_rch bs sa K T E n (nx, lo, v.toList ++ r, h')
    | none => False
def ev_args (vs : List Value) : e_L := vs.flatMap fun v => if v.category = 2 then [some v, none] else [some v]
/-- a method's first locals -/
def ev_loc (n : Nat) (vs : List Value) : e_L := ev_args vs ++ List.replicate (n - (ev_args vs).length) none
/-- the method y, with these arguments in this heap, ends so; d frames deep at most; tb: the methods -/
def ev_run (tb : Nat → Option e_M) (bs : Nat) (sa : Nat → Nat) : Nat → Nat → List Value → e_H → Option Value → e_H → Prop
  | 0 => fun _ _ _ _ _ => False
  | d + 1 => fun y as h v h' => ∃ T n, tb y = some T ∧ (ev_args as).length ≤ T.1.2.2.2.1 ∧ ev_rch bs sa (ev_run tb bs sa d) T (fun x => x = .inr (v, h')) n (0, ev_loc T.1.2.2.2.1 as, [], h)
/-- to an end that E names -/
def ev_E (tb : Nat → Option e_M) (bs : Nat) (sa : Nat → Nat) (d : Nat) (T : e_M) (E : e_C ⊕ (Option Value × e_H) → Prop) (cf : e_C) : Prop := ∃ n, ev_rch bs sa (ev_run tb bs sa d) T E n cf
end
section
/-! The evaluator's heaps and locals beside the machine's. -/
def ev_GW : List Cond := lw_tbl.filter goodWord
def ev_sts : List (String × String) := [("EnclaveMonitor$Hash", "FIRST_STATE"), ("EnclaveMonitor$Hash", "ROUND_WORDS"), ("EnclaveMonitor$Sealer", "CONSTANTS"), ("EnclaveMonitorModel", "BEGIN"), ("EnclaveMonitorModel", "ROUND")]
def ev_nq : List (String × Nat × MethodName × String) := [("EnclaveMonitor", 18, yX0_init, "EnclaveMonitor"), ("EnclaveMonitor", 25, yX2_init, "EnclaveMonitor"), ("EnclaveMonitor", 36, yX1_init, "EnclaveMonitor"), ("EnclaveMonitor$Sealer", 11, yX0_init, "EnclaveMonitor"), ("EnclaveMonitor$Runner", 37, yX4_isWithin, "EnclaveMonitor"), ("EnclaveMonitor$Page", 37, yX4_isWithin, "EnclaveMonitor")]
/-- what holds of the tables and of the static arrays at every state of the run -/
def ev_K (D : va_G) (bs : Nat) (sa : Nat → Nat) (U : State) : Prop := va_K D vwCl [] U ∧ (∀ (j : Nat) (q : String × String), ev_sts[j]? = some q → va_Z q.1 q.2 "[I" (.ref (sa j)) (fun z => bs ≤ z) U U.heap) ∧ (∀ q ∈ ev_nq, va_Nw (.methodLinkNest q.1 q.2.1 q.2.2.1 q.2.2.2) U) ∧ va_AO "EnclaveMonitor$Page" U
theorem ev_K.blind {D : va_G} {bs : Nat} {sa : Nat → Nat} {U V : State} (hv : U.vm = V.vm) (hh : U.heap = V.heap) (h : ev_K D bs sa U) : ev_K D bs sa V := by
  have ha : U.vm.Alike V.vm := by rw [hv]; exact Vm.Alike.refl V.vm
  exact ⟨va_K.moved ha h.1, fun j q hq => by rw [← hh]; exact va_Z.moved ha (h.2.1 j q hq), fun q hq => va_Nw.same rfl hv (h.2.2.1 q hq), va_AO.moved ha h.2.2.2⟩
theorem ev_K.warm {D : va_G} {bs : Nat} {sa : Nat → Nat} {s U : State} {H : Heap} {locs : List Loc} (hW : s.WarmedH U.vm) (hS : va_S (fun q => bs ≤ q) s.heap H locs) (hU : U.heap = H) (h : ev_K D bs sa s) : ev_K D bs sa U := by
  refine ⟨va_K.moved hW.alike h.1, fun j q hq => ?_, fun q hq => va_Nw.warmM hW (h.2.2.1 q hq), va_AO.moved hW.alike h.2.2.2⟩
  have h1 := va_Z.moved hW.alike (h.2.1 j q hq)
  rw [hU]
  exact va_Z.kept h1 (fun a ha hn => hS.2.1 a ha hn)
def ev_AR (U : State) (a : Nat) (ty : FieldType) (n : Nat) (g : Nat → Value) (H : Heap) : Prop := ∃ cell : Cell, H[a]? = some cell ∧ U.isArrayOf cell ty ∧ cell.vm ≠ .unknown ∧ cell.slots.size = n ∧ ∀ j, j < n → cell.slots[j]? = some (g j)
def ev_RR (D : va_G) (U : State) (a : Nat) (H : Heap) : Prop := ∃ (cell : Cell) (k : Class), H[a]? = some cell ∧ U.vm.classes[cell.cls]? = some k ∧ k.kind = .array (D.1 1) (.object "EnclaveMonitor$Page")
def ev_CR (D : va_G) (U : State) (a : Nat) (o : e_O) (H : Heap) : Prop := match o with
  | .inl x => ∃ r : vw_C, vwCl[x.1]? = some r ∧ x.2.length = r.2.2 ∧ t_OB a (D.1 x.1) r.2.2 (D.2 x.1) H (vp_V x.2)
  | .inr (.inl x) => ev_AR U a .int x.1 (fun j => .int (x.2 j)) H
  | .inr (.inr (.inl x)) => ev_AR U a .long x.1 (fun j => .long (x.2 j)) H
  | .inr (.inr (.inr x)) => ev_AR U a (.object "EnclaveMonitor$Page") x.1 (fun j => va_rf (x.2 j)) H ∧ ev_RR D U a H
def ev_P (D : va_G) (U : State) (h : e_H) (H : Heap) : Prop := (∀ a o, h.1 a = some o → ev_CR D U a o H) ∧ ∀ z u, h.2 = some (z, u) → H.size = z
theorem ev_AR.moved {u U : State} {a n : Nat} {ty : FieldType} {g : Nat → Value} {H : Heap} (hvm : u.vm.Alike U.vm) (h : ev_AR u a ty n g H) : ev_AR U a ty n g H := by
  obtain ⟨cell, h1, h2, h3⟩ := h
  exact ⟨cell, h1, State.isArrayOf_alike hvm h2, h3⟩
theorem ev_RR.moved {D : va_G} {u U : State} {a : Nat} {H : Heap} (hvm : u.vm.Alike U.vm) (h : ev_RR D u a H) : ev_RR D U a H := by
  obtain ⟨cell, k, h1, h2, h3⟩ := h
  obtain ⟨k', hk', he⟩ := hvm.2.2 _ _ h2
  exact ⟨cell, k', h1, hk', by rw [he]; exact h3⟩
theorem ev_CR.moved {D : va_G} {u U : State} {a : Nat} {o : e_O} {H : Heap} (hvm : u.vm.Alike U.vm) (h : ev_CR D u a o H) : ev_CR D U a o H := by
  match o, h with
  | .inl x, h => exact h
  | .inr (.inl x), h => exact ev_AR.moved hvm h
  | .inr (.inr (.inl x)), h => exact ev_AR.moved hvm h
  | .inr (.inr (.inr x)), h => exact ⟨ev_AR.moved hvm h.1, ev_RR.moved hvm h.2⟩
theorem ev_CR.kept {D : va_G} {U : State} {a : Nat} {o : e_O} {H H1 : Heap} (hq : H1[a]? = H[a]?) (h : ev_CR D U a o H) : ev_CR D U a o H1 := by
  match o, h with
  | .inl x, h => obtain ⟨r, h1, h2, h3⟩ := h; exact ⟨r, h1, h2, h3.kept hq⟩
  | .inr (.inl x), h => obtain ⟨c, h1, h2⟩ := h; exact ⟨c, by rw [hq]; exact h1, h2⟩
  | .inr (.inr (.inl x)), h => obtain ⟨c, h1, h2⟩ := h; exact ⟨c, by rw [hq]; exact h1, h2⟩
  | .inr (.inr (.inr x)), h => obtain ⟨⟨c, h1, h2⟩, ⟨c2, k, g1, g2⟩⟩ := h; exact ⟨⟨c, by rw [hq]; exact h1, h2⟩, ⟨c2, k, by rw [hq]; exact g1, g2⟩⟩
theorem ev_CR.lt {D : va_G} {U : State} {a : Nat} {o : e_O} {H : Heap} (h : ev_CR D U a o H) : a < H.size := by
  have key : ∀ {c : Cell}, H[a]? = some c → a < H.size := fun h => (Array.getElem?_eq_some_iff.mp h).1
  match o, h with
  | .inl x, h => obtain ⟨r, h1, h2, c, h3, h4⟩ := h; exact key h3
  | .inr (.inl x), h => obtain ⟨c, h1, h2⟩ := h; exact key h1
  | .inr (.inr (.inl x)), h => obtain ⟨c, h1, h2⟩ := h; exact key h1
  | .inr (.inr (.inr x)), h => obtain ⟨⟨c, h1, h2⟩, h3⟩ := h; exact key h1
theorem ev_P.moved {D : va_G} {u U : State} {h : e_H} {H : Heap} (hvm : u.vm.Alike U.vm) (hP : ev_P D u h H) : ev_P D U h H := ⟨fun a o ha => ev_CR.moved hvm (hP.1 a o ha), hP.2⟩
theorem ev_up_1 (h : e_H) (a : Nat) (o : e_O) (b : Nat) : (ev_up h a o).1 b = if b = a then some o else h.1 b := by
  by_cases hb : b = a
  · subst hb; simp [ev_up]
  · rw [if_neg hb]
    have : Nat.beq b a = false := by
      cases hq : Nat.beq b a with
      | false => rfl
      | true => exact absurd (Nat.eq_of_beq_eq_true hq) hb
    simp [ev_up, this]
theorem ev_P.put {D : va_G} {U : State} {h : e_H} {H H1 : Heap} {a : Nat} {o : e_O} (hP : ev_P D U h H) (hz : H1.size = H.size) (hq : ∀ q, q ≠ a → H1[q]? = H[q]?) (hc : ev_CR D U a o H1) : ev_P D U (ev_up h a o) H1 := by
  refine ⟨fun b x hb => ?_, fun z u hu => hz.trans (hP.2 z u hu)⟩
  rw [ev_up_1] at hb
  by_cases e : b = a
  · rw [if_pos e] at hb; cases hb; rw [e]; exact hc
  · rw [if_neg e] at hb; exact ev_CR.kept (hq b e) (hP.1 b x hb)
theorem ev_P.new {D : va_G} {U : State} {h h' : e_H} {H H1 : Heap} {o : e_O} {n z : Nat} (hP : ev_P D U h H) (hn : ev_new h o n = some (z, h')) (hz : H1.size = H.size + 1) (hq : ∀ q, q < H.size → H1[q]? = H[q]?) (hc : ev_CR D U H.size o H1) : z = H.size ∧ ev_P D U h' H1 ∧ ∃ w u, h.2 = some (w, u) ∧ h'.2 = some (w + 1, u + n) := by
  unfold ev_new at hn
  split at hn
  · rename_i w u hw
    have hs := hP.2 w u hw
    simp only [Option.some.injEq, Prod.mk.injEq] at hn
    obtain ⟨rfl, rfl⟩ := hn
    refine ⟨hs.symm, ⟨fun b x hb => ?_, fun z9 u9 hu => ?_⟩, w, u, hw, rfl⟩
    · dsimp only at hb
      by_cases e : b = w
      · subst e
        have : Nat.beq b b = true := by simp
        rw [this] at hb; cases hb; rw [← hs]; exact hc
      · have : Nat.beq b w = false := by
          cases hq9 : Nat.beq b w with
          | false => rfl
          | true => exact absurd (Nat.eq_of_beq_eq_true hq9) e
        rw [this] at hb
        have hb : h.1 b = some x := hb
        exact ev_CR.kept (hq b (hP.1 b x hb).lt) (hP.1 b x hb)
    · have e2 : some (w + 1, u + n) = some (z9, u9) := hu
      simp only [Option.some.injEq, Prod.mk.injEq] at e2
      rw [hz, hs]; exact e2.1
  · cases hn
theorem ev_AR.store {U : State} {a n : Nat} {ty : FieldType} {g g' : Nat → Value} {H H1 : Heap} {cell : Cell} {j : Nat} {w : Value} (h0 : H[a]? = some cell) (h1 : U.isArrayOf cell ty) (h2 : cell.vm ≠ .unknown) (h3 : cell.slots.size = n) (h4 : ∀ j, j < n → cell.slots[j]? = some (g j)) (hj : j < n) (hH : H1[a]? = some (cell.setSlot j w)) (hg : ∀ k, k < n → g' k = if k = j then w else g k) : ev_AR U a ty n g' H1 := by
  refine ⟨_, hH, h1, h2, by simp [Cell.setSlot, h3], fun k hk => ?_⟩
  rw [hg k hk]
  by_cases e : k = j
  · subst e; rw [if_pos rfl]; simp [Cell.setSlot, h3, hk]
  · rw [if_neg e, ← h4 k hk]; simp [Cell.setSlot, Array.getElem?_setIfInBounds_ne (fun q => e q.symm)]
/-- the locals -/
def ev_LR (ls : Array Slot) (nL : Nat) (lo : e_L) : Prop := lo.length = nL ∧ ls.size = nL ∧ lv_wf ls ∧ ∀ (i : Nat) (v : Value), lo[i]? = some (some v) → ls[i]? = some (.val v)
def ev_ll (lo : e_L) : List (Nat × Value) := (List.range lo.length).filterMap fun i => match lo[i]? with
  | some (some v) => some (i, v)
  | _ => none
theorem ev_ll_mem {lo : e_L} {i : Nat} {v : Value} : (i, v) ∈ ev_ll lo ↔ lo[i]? = some (some v) := by
  unfold ev_ll
  rw [List.mem_filterMap]
  constructor
  · rintro ⟨j, -, hj⟩
    split at hj
    · rename_i w hw
      simp only [Option.some.injEq, Prod.mk.injEq] at hj
      obtain ⟨rfl, rfl⟩ := hj
      exact hw
    · cases hj
  · intro h
    refine ⟨i, List.mem_range.mpr (List.getElem?_eq_some_iff.mp h).1, ?_⟩
    rw [h]
theorem ev_LR.has {ls : Array Slot} {nL : Nat} {lo : e_L} (h : ev_LR ls nL lo) : lv_has ls nL (ev_ll lo) := ⟨h.2.1, h.2.2.1, fun q hq => h.2.2.2 q.1 q.2 (ev_ll_mem.mp hq)⟩
theorem ev_nc_spec {lo : e_L} {i j : Nat} {v : Value} (hn : ev_nc lo i = true) (h : lo[j]? = some (some v)) : ¬ (j + 1 = i ∧ v.category = 2) := by
  rintro ⟨rfl, hc⟩
  have hn : ev_nc1 lo j = true := hn
  unfold ev_nc1 at hn
  rw [h] at hn
  have := Nat.eq_of_beq_eq_true hn
  omega
theorem ev_LR.st1 {ls' : Array Slot} {nL i : Nat} {lo : e_L} {w : Value} (hlen : lo.length = nL) (hi : i < nL) (hnc : ev_nc lo i = true) (h : lv_has ls' nL ((i, w) :: (ev_ll lo).filter (fun q => !(q.1 == i) && !(q.1 + 1 == i && q.2.category == 2)))) : ev_LR ls' nL (lo.set i (some w)) := by
  refine ⟨by rw [List.length_set]; exact hlen, h.1, h.2.1, fun j v hj => ?_⟩
  by_cases e : j = i
  · subst e
    rw [List.getElem?_set_self (by omega)] at hj
    cases hj
    exact h.2.2 (j, w) List.mem_cons_self
  · rw [List.getElem?_set_ne (fun q => e q.symm)] at hj
    have h2 := ev_nc_spec hnc hj
    refine h.2.2 (j, v) (List.mem_cons_of_mem _ (List.mem_filter.mpr ⟨ev_ll_mem.mpr hj, ?_⟩))
    simp only [Bool.and_eq_true, Bool.not_eq_true', beq_eq_false_iff_ne, ne_eq, Bool.and_eq_false_iff]
    refine ⟨e, ?_⟩
    by_cases q : j + 1 = i
    · exact Or.inr (fun z => h2 ⟨q, z⟩)
    · exact Or.inl q
theorem ev_LR.st2 {ls' : Array Slot} {nL i : Nat} {lo : e_L} {x : Int64} (hlen : lo.length = nL) (hi : i + 1 < nL) (hnc : ev_nc lo i = true) (h : lv_has ls' nL ((i, Value.long x) :: (ev_ll lo).filter (fun q => !(q.1 == i) && (!(q.1 == i + 1) && !(q.1 + 1 == i && q.2.category == 2))))) : ev_LR ls' nL ((lo.set i (some (.long x))).set (i + 1) none) := by
  refine ⟨by rw [List.length_set, List.length_set]; exact hlen, h.1, h.2.1, fun j v hj => ?_⟩
  by_cases e1 : j = i + 1
  · subst e1
    rw [List.getElem?_set_self (by rw [List.length_set]; omega)] at hj
    cases hj
  · rw [List.getElem?_set_ne (fun q => e1 q.symm)] at hj
    by_cases e : j = i
    · subst e
      rw [List.getElem?_set_self (by omega)] at hj
      cases hj
      exact h.2.2 (j, .long x) List.mem_cons_self
    · rw [List.getElem?_set_ne (fun q => e q.symm)] at hj
      have h2 := ev_nc_spec hnc hj
      refine h.2.2 (j, v) (List.mem_cons_of_mem _ (List.mem_filter.mpr ⟨ev_ll_mem.mpr hj, ?_⟩))
      simp only [Bool.and_eq_true, Bool.not_eq_true', beq_eq_false_iff_ne, ne_eq, Bool.and_eq_false_iff]
      refine ⟨e, e1, ?_⟩
      by_cases q : j + 1 = i
      · exact Or.inr (fun z => h2 ⟨q, z⟩)
      · exact Or.inl q
theorem ev_LR.entry (vs : List Value) {n : Nat} (h : (ev_args vs).length ≤ n) : ev_LR ((lg_sl vs ++ List.replicate (n - (lg_sl vs).length) Slot.unset).toArray) n (ev_loc n vs) := by
  have key : ∀ vs : List Value, (lg_sl vs).length = (ev_args vs).length ∧ ∀ (i : Nat) (v : Value), (ev_args vs)[i]? = some (some v) → (lg_sl vs)[i]? = some (.val v) := by
    intro vs
    induction vs with
    | nil => exact ⟨rfl, fun i v hi => by simp [ev_args] at hi⟩
    | cons w r ih =>
      have e1 : lg_sl (w :: r) = (if w.category = 2 then [Slot.val w, .second] else [.val w]) ++ lg_sl r := rfl
      have e2 : ev_args (w :: r) = (if w.category = 2 then [some w, none] else [some w]) ++ ev_args r := rfl
      rw [e1, e2]
      by_cases hc : w.category = 2
      · rw [if_pos hc, if_pos hc]
        refine ⟨by simp [ih.1], fun i v hi => ?_⟩
        match i, hi with
        | 0, hi => simp at hi; simp [hi]
        | 1, hi => simp at hi
        | i + 2, hi => simp at hi ⊢; exact ih.2 i v hi
      · rw [if_neg hc, if_neg hc]
        refine ⟨by simp [ih.1], fun i v hi => ?_⟩
        match i, hi with
        | 0, hi => simp at hi; simp [hi]
        | i + 1, hi => simp at hi ⊢; exact ih.2 i v hi
  obtain ⟨k1, k2⟩ := key vs
  have hv := lv_entry vs (n := n) (by rw [k1]; exact h)
  refine ⟨by simp [ev_loc]; omega, hv.1, hv.2.1, fun i v hi => ?_⟩
  unfold ev_loc at hi
  have hi2 : (ev_args vs)[i]? = some (some v) := by
    by_cases hl : i < (ev_args vs).length
    · rw [List.getElem?_append_left hl] at hi; exact hi
    · rw [List.getElem?_append_right (by omega), List.getElem?_replicate] at hi
      split at hi <;> simp at hi
  have h3 := k2 i v hi2
  simp only [List.getElem?_toArray]
  rw [List.getElem?_append_left (List.getElem?_eq_some_iff.mp h3).1]
  exact h3
def ev_cn (h : e_H) : Nat := match h.2 with
  | some (z, _) => z
  | none => 0
def ev_sn (h : e_H) : Nat := match h.2 with
  | some (_, u) => u
  | none => 0
end
section
/-! One step of the evaluator is a step of the machine. -/
def ev_ln : Instr → Nat
  | .bipush _ => 2
  | .ldc _ => 2
  | .iload _ => 2
  | .lload _ => 2
  | .aload _ => 2
  | .istore _ => 2
  | .lstore _ => 2
  | .astore _ => 2
  | .newarray _ => 2
  | .sipush _ => 3
  | .ldc2_w _ => 3
  | .iinc _ _ => 3
  | .if_icmp _ _ => 3
  | .ifCond _ _ => 3
  | .ifnull _ => 3
  | .ifnonnull _ => 3
  | .goto _ => 3
  | .getfield _ => 3
  | .putfield _ => 3
  | .getstatic _ => 3
  | .new _ => 3
  | .anewarray _ => 3
  | .invokestatic _ => 3
  | .invokespecial _ => 3
  | .invokevirtual _ => 3
  | .tableswitch _ _ _ _ => 0
  | _ => 1
def ev_okc (pc x1 : Nat) (v : Value) (ts : List Nat) (i : Instr) : Bool := match i with
  | .iconst n => decide (v = .int (Int32.ofInt n))
  | .bipush n => decide (v = .int (Int8.ofInt n).toInt32)
  | .sipush n => decide (v = .int (Int16.ofInt n).toInt32)
  | .lconst n => decide (v = .long (Int64.ofNat n))
  | .iload_n k => decide ((k : Nat) = x1)
  | .iload k => decide (k = x1)
  | .lload_n k => decide ((k : Nat) = x1)
  | .lload k => decide (k = x1)
  | .aload_n k => decide ((k : Nat) = x1)
  | .aload k => decide (k = x1)
  | .istore_n k => decide ((k : Nat) = x1)
  | .istore k => decide (k = x1)
  | .lstore_n k => decide ((k : Nat) = x1)
  | .lstore k => decide (k = x1)
  | .astore_n k => decide ((k : Nat) = x1)
  | .astore k => decide (k = x1)
  | .iinc k n => decide (k = x1) && decide (v = .int (Int32.ofInt n))
  | .if_icmp _ off => decide ((pc : Int) + off = (x1 : Int))
  | .ifCond _ off => decide ((pc : Int) + off = (x1 : Int))
  | .ifnull off => decide ((pc : Int) + off = (x1 : Int))
  | .ifnonnull off => decide ((pc : Int) + off = (x1 : Int))
  | .goto off => decide ((pc : Int) + off = (x1 : Int))
  | .tableswitch df lo hi offs => decide (lo = 0) && (decide (hi + 1 = (offs.size : Int)) && decide (ts.map (fun t : Nat => (t : Int) - (pc : Int)) = df :: offs.toList))
  | _ => true
def ev_okB (bytes : ByteArray) (pc : Nat) (q : e_E) : Bool := decide (decode bytes pc = .ok (q.1, q.2.1 - pc)) && (decide (pc < q.2.1) && ((decide (ev_ln q.1 = 0) || decide (q.2.1 = pc + ev_ln q.1)) && ev_okc pc q.2.2.1 q.2.2.2.2.1 q.2.2.2.2.2 q.1))
def ev_fk : FieldType → Nat
  | .int => 0
  | .long => 1
  | .object _ => 2
  | .array _ => 2
  | _ => 7
/-- the words of a call -/
def ev_cal (own : String) (idx : Nat) (T : e_M) (n : Nat) : Prop := (Cond.methodLink own idx T.1.2.1 ∈ ev_GW ∨ ∃ host, (own, idx, T.1.2.1, host) ∈ ev_nq) ∧ Cond.initialized T.1.2.1.cls ∈ ev_GW ∧ Cond.code T.1.2.1 T.1.2.2.1 T.1.2.2.2.1 T.1.2.2.2.2 ∈ ev_GW ∧ (T.1.2.1.cls ≠ "java/lang/invoke/MethodHandle" ∧ T.1.2.1.cls ≠ "java/lang/invoke/VarHandle" ∧ (parseMethodDescriptor T.1.2.1.desc).map (fun d => d.parameters.length) = some n) ∧ T.1.2.2.2.1 ≤ 21
def ev_okW (tb : Nat → Option e_M) (own nm : String) (x1 x2 : Nat) (v : Value) (ts : List Nat) (i : Instr) : Prop := match i with
  | .ldc idx => ∃ z : Int32, v = .int z ∧ Cond.constant own idx z ∈ ev_GW
  | .ldc2_w idx => ∃ z : Int64, v = .long z ∧ Cond.constantLong own idx z ∈ ev_GW
  | .getfield idx => ∃ r : vw_C, vwCl[x1]? = some r ∧ (∀ w ∈ u_ws r.1 r.2.1 r.2.2, w ∈ ev_GW) ∧ x2 < r.2.2 ∧ Cond.fieldLink own idx (r.2.1 x2).1 (r.2.1 x2).2.1 (r.2.1 x2).2.2.1 ∈ ev_GW
  | .putfield idx => ∃ (r : vw_C) (ty : Nat → FieldType), vwCl[x1]? = some r ∧ (∀ w ∈ u_ws r.1 r.2.1 r.2.2, w ∈ ev_GW) ∧ x2 < r.2.2 ∧ Cond.fieldLink own idx (r.2.1 x2).1 (r.2.1 x2).2.1 (r.2.1 x2).2.2.1 ∈ ev_GW ∧ (∀ k, k < r.2.2 → parseFieldDescriptor (r.2.1 k).2.2.1 = some (ty k)) ∧ (∀ a, a < r.2.2 → ∀ b, b < r.2.2 → a ≠ b → (r.2.1 a).2.1 ≠ (r.2.1 b).2.1) ∧ ev_fk (ty x2) = ev_kd v ∧ ((r.2.1 x2).2.2.2 = false ∨ ((r.2.1 x2).2.2.2 = true ∧ nm = "<init>" ∧ (r.2.1 x2).1 = own))
  | .getstatic idx => ∃ q : String × String, ev_sts[x1]? = some q ∧ Cond.fieldLink own idx q.1 q.2 "[I" ∈ ev_GW
  | .new idx => ∃ (r : vw_C) (ty : Nat → FieldType), vwCl[x1]? = some r ∧ (∀ w ∈ u_ws r.1 r.2.1 r.2.2, w ∈ ev_GW) ∧ x2 = r.2.2 ∧ (∀ k, k < r.2.2 → parseFieldDescriptor (r.2.1 k).2.2.1 = some (ty k)) ∧ Cond.classLink own idx r.1 ∈ ev_GW ∧ Cond.instantiable r.1 r.2.2 ∈ ev_GW ∧ Cond.initialized r.1 ∈ ev_GW ∧ ts.length = r.2.2 ∧ ∀ j, j < r.2.2 → defaultValue (ty j) = vp_V (ts.map ev_z) j
  | .anewarray idx => Cond.classLink own idx "EnclaveMonitor$Page" ∈ ev_GW
  | .invokestatic idx => if x1 = 1001 then Cond.methodLink own idx arraycopyName ∈ ev_GW else ∃ T, tb x1 = some T ∧ ev_cal own idx T x2 ∧ Cond.static T.1.2.1 ∈ ev_GW
  | .invokespecial idx => if x1 = 1000 then Cond.methodLink own idx objectInit ∈ ev_GW else ∃ T, tb x1 = some T ∧ ev_cal own idx T x2 ∧ T.1.2.1.name = "<init>" ∧ Cond.instanceMethod T.1.2.1 ∈ ev_GW ∧ T.1.2.2.2.2 = none
  | .invokevirtual idx => ∃ (T : e_M) (ci : Nat) (r : vw_C), tb x1 = some T ∧ ts = [ci] ∧ vwCl[ci]? = some r ∧ T.1.2.1.cls = r.1 ∧ ev_cal own idx T x2 ∧ Cond.instanceMethod T.1.2.1 ∈ ev_GW ∧ Cond.selects r.1 T.1.2.1 T.1.2.1 ∈ ev_GW
  | _ => True
def ev_okE (tb : Nat → Option e_M) (T : e_M) (pc : Nat) (q : e_E) : Prop := ev_okB T.1.2.2.1 pc q = true ∧ ev_okW tb T.1.1 T.1.2.1.name q.2.2.1 q.2.2.2.1 q.2.2.2.2.1 q.2.2.2.2.2 q.1
def ev_ok (tb : Nat → Option e_M) (T : e_M) : Prop := T.1.2.1.cls = T.1.1 ∧ plainName T.1.1 = true ∧ ∀ q ∈ T.2, ev_okE tb T q.1 q.2
theorem ev_fnd_mem : ∀ (l : List (Nat × e_E)) (pc : Nat) (q : e_E), ev_fnd l pc = some q → (pc, q) ∈ l := by
  intro l
  induction l with
  | nil => intro pc q h; cases h
  | cons e r ih =>
    intro pc q h
    unfold ev_fnd at h
    cases hb : Nat.beq e.1 pc with
    | true =>
      rw [hb] at h
      have e1 := Nat.eq_of_beq_eq_true hb
      have h : some e.2 = some q := h
      cases h
      rw [← e1]
      exact List.mem_cons_self
    | false =>
      rw [hb] at h
      exact List.mem_cons_of_mem _ (ih pc q h)
def ev_glob : Prop := Cond.native arraycopyName ∈ ev_GW ∧ Cond.static arraycopyName ∈ ev_GW ∧ Cond.initialized "java/lang/System" ∈ ev_GW ∧ Cond.instanceMethod objectInit ∈ ev_GW ∧ Cond.code objectInit ⟨#[0xb1]⟩ 1 none ∈ ev_GW ∧ Cond.arrayClass .int ∈ ev_GW ∧ Cond.arrayClass .long ∈ ev_GW
def ev_X (p : Program) (R : Room) (s : State) (m : MethodId) (args : Array Value) (meth : Method) (c : Code) (D : va_G) (bs : Nat) (sa : Nat → Nat) (T : e_M) (d : Nat) : Prop :=
  p.tables.exec = Jvm.exec ∧ c.code = T.1.2.2.1 ∧ c.maxLocals = T.1.2.2.2.1 ∧ meth.sig.returnType = T.1.2.2.2.2 ∧ s.vm.findClass T.1.1 = some m.cls ∧ meth.name = T.1.2.1.name ∧ meth.locks = false ∧ (∀ w ∈ ev_GW, w.before args s = true) ∧ ev_K D bs sa s ∧ d + 1 ≤ R.frames ∧ 40 * (d + 1) ≤ R.locals ∧ bs ≤ s.heap.size
def ev_G (p : Program) (l : Launch) (e : Env) (R : Room) (s : State) (m : MethodId) (args : Array Value) (below : List Frame) (meth : Method) (c : Code) (D : va_G) (bs : Nat) (T : e_M) (c0 s0 : Nat) (Q : State → Prop) (cf : e_C) : Prop :=
  ∀ (H : Heap) (locs : List Loc) (ls : Array Slot), ev_P D s cf.2.2.2 H → va_S (fun q => bs ≤ q) s.heap H locs → ev_LR ls T.1.2.2.2.1 cf.2.1 → W p l e R s m args below meth c H locs (ev_cn cf.2.2.2 - c0) (ev_sn cf.2.2.2 - s0) Q (F0 m cf.1 ls cf.2.2.1)
theorem ev_kd0 {w : Value} {k : Nat} (h : ev_kd w = k) (hk : k = 0) : ∃ x, w = .int x := by
  subst hk; cases w <;> first | exact ⟨_, rfl⟩ | (simp [ev_kd] at h)
theorem ev_kd1 {w : Value} {k : Nat} (h : ev_kd w = k) (hk : k = 1) : ∃ x, w = .long x := by
  subst hk; cases w <;> first | exact ⟨_, rfl⟩ | (simp [ev_kd] at h)
theorem ev_kd2 {w : Value} {k : Nat} (h : ev_kd w = k) (hk : k = 2) : w = .null ∨ ∃ x, w = .ref x := by
  subst hk; cases w <;> first | exact Or.inl rfl | exact Or.inr ⟨_, rfl⟩ | (simp [ev_kd] at h)
theorem ev_fit {ty : FieldType} {w : Value} (h : ev_fk ty = ev_kd w) : narrow ty w = w ∧ fits ty w = true := by
  cases ty <;> cases w <;> first | exact ⟨rfl, rfl⟩ | (simp [ev_fk, ev_kd] at h)
theorem ev_ld_spec {lo : e_L} {i k : Nat} {w : Value} (h : ev_ld lo i k = some w) : lo[i]? = some (some w) ∧ ev_kd w = k := by
  unfold ev_ld at h
  split at h
  · rename_i u hu
    cases hb : Nat.beq (ev_kd u) k with
    | true => rw [hb] at h; cases h; exact ⟨hu, Nat.eq_of_beq_eq_true hb⟩
    | false => rw [hb] at h; cases h
  · cases h
theorem ev_cond {b : Bool} {α : Type} {x y : Option α} {z : α} (h : cond b x none = some z) : b = true ∧ x = some z := by
  cases b with
  | true => exact ⟨rfl, h⟩
  | false => cases h
theorem ev_obj_spec {h : e_H} {a ci : Nat} {fs : List Value} (q : ev_obj h a ci = some fs) : h.1 a = some (.inl (ci, fs)) := by
  unfold ev_obj at q
  split at q
  · rename_i c f hc
    obtain ⟨q1, q2⟩ := ev_cond (y := some fs) q
    cases q2
    rw [hc, Nat.eq_of_beq_eq_true q1]
  · cases q
theorem ev_ia_spec {h : e_H} {a : Nat} {x : Nat × (Nat → Int32)} (q : ev_ia h a = some x) : h.1 a = some (.inr (.inl x)) := by
  unfold ev_ia at q
  split at q
  · rename_i c hc; cases q; exact hc
  · cases q
theorem ev_la_spec {h : e_H} {a : Nat} {x : Nat × (Nat → Int64)} (q : ev_la h a = some x) : h.1 a = some (.inr (.inr (.inl x))) := by
  unfold ev_la at q
  split at q
  · rename_i c hc; cases q; exact hc
  · cases q
theorem ev_ra_spec {h : e_H} {a : Nat} {x : Nat × (Nat → Option Nat)} (q : ev_ra h a = some x) : h.1 a = some (.inr (.inr (.inr x))) := by
  unfold ev_ra at q
  split at q
  · rename_i c hc; cases q; exact hc
  · cases q
theorem ev_in_spec {i : Int32} {n : Nat} (h : ev_in i n = true) : ¬ i < 0 ∧ i.toNatClampNeg < n := by
  unfold ev_in at h
  rw [Bool.and_eq_true] at h
  exact ⟨by simpa using h.1, Nat.lt_of_succ_le (Nat.le_of_ble_eq_true h.2)⟩
theorem ev_in_not {i : Int32} {n : Nat} (h : ev_in i n = true) : ¬ (i < 0 ∨ n ≤ i.toNatClampNeg) := by
  obtain ⟨h1, h2⟩ := ev_in_spec h
  rintro (q | q)
  · exact h1 q
  · omega
section EVS
variable {p : Program} {l : Launch} {e : Env} {R : Room} {s : State} {m : MethodId} {args : Array Value} {below : List Frame} {meth : Method} {c : Code} {D : va_G} {bs : Nat} {sa : Nat → Nat} {T : e_M} {d c0 s0 : Nat} {Q : State → Prop} {tb : Nat → Option e_M}
variable {pc nx x1 x2 : Nat} {v : Value} {ts : List Nat} {lo : e_L} {sk : List Value} {h : e_H} {cf' : e_C}
/-- a load -/
theorem ev_s_load {k : Nat} {i : Instr} (X : ev_X p R s m args meth c D bs sa T d) (hd : decode T.1.2.2.1 pc = .ok (i, ev_ln i)) (hn : nx = pc + ev_ln i)
    (hi : (k = 0 ∧ (i = .iload x1 ∨ ∃ j : Fin 4, i = .iload_n j ∧ (j : Nat) = x1)) ∨ (k = 1 ∧ (i = .lload x1 ∨ ∃ j : Fin 4, i = .lload_n j ∧ (j : Nat) = x1)) ∨ (k = 2 ∧ (i = .aload x1 ∨ ∃ j : Fin 4, i = .aload_n j ∧ (j : Nat) = x1)))
    (hs : ev_load k nx x1 lo sk h = some (.inl cf')) (kk : ev_G p l e R s m args below meth c D bs T c0 s0 Q cf') : ev_G p l e R s m args below meth c D bs T c0 s0 Q (pc, lo, sk, h) := by
  obtain ⟨hx, hb, -⟩ := X
  unfold ev_load at hs
  split at hs
  · rename_i w hw
    obtain ⟨hl, hk⟩ := ev_ld_spec hw
    have hs : some (Sum.inl (nx, lo, w :: sk, h)) = some (.inl cf') := hs
    cases hs
    intro H locs ls hP hS hL
    have hv := hL.2.2.2 x1 w hl
    have kk := kk H locs ls hP hS hL
    subst hn
    rcases hi with ⟨hk0, rfl | ⟨j, rfl, hj⟩⟩ | ⟨hk0, rfl | ⟨j, rfl, hj⟩⟩ | ⟨hk0, rfl | ⟨j, rfl, hj⟩⟩
    · obtain ⟨x, rfl⟩ := ev_kd0 hk hk0; exact lv_iload hx hb hd hv kk
    · obtain ⟨x, rfl⟩ := ev_kd0 hk hk0; exact lv_iload_n hx hb hd hj hv kk
    · obtain ⟨x, rfl⟩ := ev_kd1 hk hk0; exact lv_lload hx hb hd hv kk
    · obtain ⟨x, rfl⟩ := ev_kd1 hk hk0; exact lv_lload_n hx hb hd hj hv kk
    · rcases ev_kd2 hk hk0 with rfl | ⟨x, rfl⟩
      · exact lv_aloadN hx hb hd hv kk
      · exact lv_aload hx hb hd hv kk
    · rcases ev_kd2 hk hk0 with rfl | ⟨x, rfl⟩
      · exact lv_aload_nN hx hb hd hj hv kk
      · exact lv_aload_n hx hb hd hj hv kk
  · cases hs
/-- a store -/
theorem ev_s_store {k : Nat} {i : Instr} (X : ev_X p R s m args meth c D bs sa T d) (hd : decode T.1.2.2.1 pc = .ok (i, ev_ln i)) (hn : nx = pc + ev_ln i)
    (hi : (k = 0 ∧ (i = .istore x1 ∨ ∃ j : Fin 4, i = .istore_n j ∧ (j : Nat) = x1)) ∨ (k = 2 ∧ (i = .astore x1 ∨ ∃ j : Fin 4, i = .astore_n j ∧ (j : Nat) = x1)))
    (hs : ev_store k nx x1 lo sk h = some (.inl cf')) (kk : ev_G p l e R s m args below meth c D bs T c0 s0 Q cf') : ev_G p l e R s m args below meth c D bs T c0 s0 Q (pc, lo, sk, h) := by
  obtain ⟨hx, hb, -⟩ := X
  unfold ev_store at hs
  split at hs
  · rename_i w r
    obtain ⟨hq, hs⟩ := ev_cond (y := some (Sum.inl cf')) hs
    rw [Bool.and_eq_true, Bool.and_eq_true] at hq
    have hk := Nat.eq_of_beq_eq_true hq.1
    have hlen : x1 < lo.length := Nat.lt_of_succ_le (Nat.le_of_ble_eq_true hq.2.1)
    have hnc := hq.2.2
    have hs : some (Sum.inl (nx, lo.set x1 (some w), r, h)) = some (.inl cf') := hs
    cases hs
    intro H locs ls hP hS hL
    subst hn
    have hh := hL.has
    have hll : lo.length = T.1.2.2.2.1 := hL.1
    have h1 : x1 < T.1.2.2.2.1 := by omega
    rcases hi with ⟨hk0, hi⟩ | ⟨hk0, hi⟩
    · obtain ⟨x, rfl⟩ := ev_kd0 hk hk0
      rcases hi with rfl | ⟨j, rfl, hj⟩
      · exact lv_istore hx hb hd hh h1 rfl (fun ls' hl => kk H locs ls' hP hS (ev_LR.st1 hll h1 hnc hl))
      · exact lv_istore_n hx hb hd hj hh h1 rfl (fun ls' hl => kk H locs ls' hP hS (ev_LR.st1 hll h1 hnc hl))
    · rcases ev_kd2 hk hk0 with rfl | ⟨x, rfl⟩
      · rcases hi with rfl | ⟨j, rfl, hj⟩
        · exact lv_astoreN hx hb hd hh h1 rfl (fun ls' hl => kk H locs ls' hP hS (ev_LR.st1 hll h1 hnc hl))
        · exact lv_astore_nN hx hb hd hj hh h1 rfl (fun ls' hl => kk H locs ls' hP hS (ev_LR.st1 hll h1 hnc hl))
      · rcases hi with rfl | ⟨j, rfl, hj⟩
        · exact lv_astore hx hb hd hh h1 rfl (fun ls' hl => kk H locs ls' hP hS (ev_LR.st1 hll h1 hnc hl))
        · exact lv_astore_n hx hb hd hj hh h1 rfl (fun ls' hl => kk H locs ls' hP hS (ev_LR.st1 hll h1 hnc hl))
  · cases hs
theorem ev_s_storeL {i : Instr} (X : ev_X p R s m args meth c D bs sa T d) (hd : decode T.1.2.2.1 pc = .ok (i, ev_ln i)) (hn : nx = pc + ev_ln i)
    (hi : i = .lstore x1 ∨ ∃ j : Fin 4, i = .lstore_n j ∧ (j : Nat) = x1)
    (hs : ev_storeL nx x1 lo sk h = some (.inl cf')) (kk : ev_G p l e R s m args below meth c D bs T c0 s0 Q cf') : ev_G p l e R s m args below meth c D bs T c0 s0 Q (pc, lo, sk, h) := by
  obtain ⟨hx, hb, -⟩ := X
  unfold ev_storeL at hs
  split at hs
  · rename_i x r
    obtain ⟨hq, hs⟩ := ev_cond (y := some (Sum.inl cf')) hs
    rw [Bool.and_eq_true] at hq
    have hlen : x1 + 1 < lo.length := Nat.lt_of_succ_le (Nat.le_of_ble_eq_true hq.1)
    have hnc := hq.2
    have hs : some (Sum.inl (nx, (lo.set x1 (some (.long x))).set (x1 + 1) none, r, h)) = some (.inl cf') := hs
    cases hs
    intro H locs ls hP hS hL
    subst hn
    have hh := hL.has
    have hll : lo.length = T.1.2.2.2.1 := hL.1
    have h1 : x1 + 1 < T.1.2.2.2.1 := by omega
    rcases hi with rfl | ⟨j, rfl, hj⟩
    · exact lv_lstore hx hb hd hh h1 rfl (fun ls' hl => kk H locs ls' hP hS (ev_LR.st2 hll h1 hnc hl))
    · exact lv_lstore_n hx hb hd hj hh h1 rfl (fun ls' hl => kk H locs ls' hP hS (ev_LR.st2 hll h1 hnc hl))
  · cases hs
theorem ev_s_inc {n : Int} (X : ev_X p R s m args meth c D bs sa T d) (hd : decode T.1.2.2.1 pc = .ok (.iinc x1 n, 3)) (hn : nx = pc + 3) (hv : v = .int (Int32.ofInt n))
    (hs : ev_inc nx x1 v lo sk h = some (.inl cf')) (kk : ev_G p l e R s m args below meth c D bs T c0 s0 Q cf') : ev_G p l e R s m args below meth c D bs T c0 s0 Q (pc, lo, sk, h) := by
  obtain ⟨hx, hb, -⟩ := X
  subst hv
  unfold ev_inc at hs
  split at hs
  · rename_i x cst hw hc
    cases hc
    obtain ⟨hl, hk⟩ := ev_ld_spec hw
    obtain ⟨hnc, hs⟩ := ev_cond (y := some (Sum.inl cf')) hs
    have hs : some (Sum.inl (nx, lo.set x1 (some (.int (x + Int32.ofInt n))), sk, h)) = some (.inl cf') := hs
    cases hs
    intro H locs ls hP hS hL
    subst hn
    have hh := hL.has
    have hll : lo.length = T.1.2.2.2.1 := hL.1
    have h1 : x1 < T.1.2.2.2.1 := by have := (List.getElem?_eq_some_iff.mp hl).1; omega
    obtain ⟨j, hj⟩ := List.getElem?_of_mem (ev_ll_mem.mpr hl)
    exact lv_iinc hx hb hd hh hj rfl h1 rfl (fun ls' hl => kk H locs ls' hP hS (ev_LR.st1 hll h1 hnc hl))
  · cases hs
end EVS
end
section
section EVT
variable {p : Program} {l : Launch} {e : Env} {R : Room} {s : State} {m : MethodId} {args : Array Value} {below : List Frame} {meth : Method} {c : Code} {D : va_G} {bs : Nat} {sa : Nat → Nat} {T : e_M} {d c0 s0 : Nat} {Q : State → Prop} {tb : Nat → Option e_M}
variable {pc nx x1 x2 : Nat} {v : Value} {ts : List Nat} {lo : e_L} {sk : List Value} {h : e_H} {cf' : e_C}
theorem ev_s_get {idx : Nat} (X : ev_X p R s m args meth c D bs sa T d) (hd : decode T.1.2.2.1 pc = .ok (.getfield idx, 3)) (hn : nx = pc + 3)
    (hW : ∃ r : vw_C, vwCl[x1]? = some r ∧ (∀ w ∈ u_ws r.1 r.2.1 r.2.2, w ∈ ev_GW) ∧ x2 < r.2.2 ∧ Cond.fieldLink T.1.1 idx (r.2.1 x2).1 (r.2.1 x2).2.1 (r.2.1 x2).2.2.1 ∈ ev_GW)
    (hs : ev_get x1 x2 nx lo sk h = some (.inl cf')) (kk : ev_G p l e R s m args below meth c D bs T c0 s0 Q cf') : ev_G p l e R s m args below meth c D bs T c0 s0 Q (pc, lo, sk, h) := by
  obtain ⟨hx, hb, -, -, hown, -, -, hts, hK, -⟩ := X
  obtain ⟨⟨C, Tc, N⟩, hr, hin, hk, hl⟩ := hW
  dsimp only at hin hk hl
  unfold ev_get at hs
  split at hs
  · rename_i a r
    split at hs
    · rename_i fs hfs
      split at hs
      · rename_i w hw
        have hs : some (Sum.inl (nx, lo, w :: r, h)) = some (.inl cf') := hs
        cases hs
        intro H locs ls hP hS hL
        subst hn
        obtain ⟨r', h1, h2, h3⟩ := hP.1 a _ (ev_obj_spec hfs)
        have hP1 : va_P D vwCl [(a, .inr (x1, fs))] H := fun k q hq => by
          match k, hq with
          | 0, hq => cases hq; exact ⟨r', h1, h3⟩
        exact va_get (ci := x1) (C := C) (T := Tc) (N := N) hx hb hts hin hown hK.1 hP1 0 rfl hr x2 hk (hts _ hl) (fun _ h9 => h9) hw hd (kk H locs ls hP hS hL)
      · cases hs
    · cases hs
  · cases hs
theorem ev_s_put {idx : Nat} (X : ev_X p R s m args meth c D bs sa T d) (hd : decode T.1.2.2.1 pc = .ok (.putfield idx, 3)) (hn : nx = pc + 3)
    (hW : ∃ (r : vw_C) (ty : Nat → FieldType), vwCl[x1]? = some r ∧ (∀ w ∈ u_ws r.1 r.2.1 r.2.2, w ∈ ev_GW) ∧ x2 < r.2.2 ∧ Cond.fieldLink T.1.1 idx (r.2.1 x2).1 (r.2.1 x2).2.1 (r.2.1 x2).2.2.1 ∈ ev_GW ∧ (∀ k, k < r.2.2 → parseFieldDescriptor (r.2.1 k).2.2.1 = some (ty k)) ∧ (∀ a, a < r.2.2 → ∀ b, b < r.2.2 → a ≠ b → (r.2.1 a).2.1 ≠ (r.2.1 b).2.1) ∧ ev_fk (ty x2) = ev_kd v ∧ ((r.2.1 x2).2.2.2 = false ∨ ((r.2.1 x2).2.2.2 = true ∧ T.1.2.1.name = "<init>" ∧ (r.2.1 x2).1 = T.1.1)))
    (hs : ev_put bs v x1 x2 nx lo sk h = some (.inl cf')) (kk : ev_G p l e R s m args below meth c D bs T c0 s0 Q cf') : ev_G p l e R s m args below meth c D bs T c0 s0 Q (pc, lo, sk, h) := by
  obtain ⟨hx, hb, -, -, hown, hnm, -, hts, hK, -⟩ := X
  obtain ⟨⟨C, Tc, N⟩, ty, hr, hin, hk, hl, hty, hap, hfk, hfin⟩ := hW
  dsimp only at hin hk hl hty hap hfin
  unfold ev_put at hs
  split at hs
  · rename_i w a r
    split at hs
    · rename_i fs hfs
      obtain ⟨hq, hs⟩ := ev_cond (y := some (Sum.inl cf')) hs
      rw [Bool.and_eq_true, Bool.and_eq_true] at hq
      have hba := Nat.le_of_ble_eq_true hq.1
      have hlt : x2 < fs.length := Nat.lt_of_succ_le (Nat.le_of_ble_eq_true hq.2.1)
      have hkd := Nat.eq_of_beq_eq_true hq.2.2
      have hs : some (Sum.inl (nx, lo, r, ev_up h a (.inl (x1, fs.set x2 w)))) = some (.inl cf') := hs
      cases hs
      intro H locs ls hP hS hL
      subst hn
      obtain ⟨r', h1, h2, h3⟩ := hP.1 a _ (ev_obj_spec hfs)
      have hrr : r' = (C, Tc, N) := Option.some.inj (h1.symm.trans hr)
      subst hrr
      obtain ⟨hnar, hfit⟩ := ev_fit (hfk.trans hkd.symm)
      have hapart := va_apart (own := T.1.1) hts hin ty hty hap hK.1 hr
      obtain ⟨cell, q1, q2, q3, q4⟩ := h3
      obtain ⟨hSl, hfc, kC, hkC, hkind⟩ := hK.1.1 x1 _ hr
      obtain ⟨cf, kf, fi, f, hi, hsl⟩ := hSl x2 hk
      dsimp only at q4 hi hsl hfc
      have hst := (u_facts hfc hkC (u_lays hts hin hk) hi).1
      have hgo : ∀ (H' : Heap), H'[a]? = some (cell.setSlot f.slot w) → H'.size = H.size → (∀ q, q ≠ a → H'[q]? = H[q]?) → W p l e R s m args below meth c H' (locs ++ [⟨a, f.slot⟩]) (ev_cn h - c0) (ev_sn h - s0) Q (F0 m (pc + 3) ls r) := by
        intro H' e1 e2 e3
        rw [hsl] at e1
        refine kk H' _ ls (hP.put e2 e3 ⟨(C, Tc, N), hr, ?_, t_OB.to (V := updV (vp_V fs) x2 w) ⟨_, e1, q2, q3, t_set q4 hapart hk w⟩ (fun j _ => vp_updV_set hlt w j)⟩) (hS.put e2 e3 hba) hL
        rw [List.length_set]; exact h2
      rcases hfin with hfin | ⟨hfin, hini, hdecl⟩
      · have hlay := hts _ (hin _ (u_in_lay hk))
        unfold u_lay at hlay
        rw [if_neg (by rw [hfin]; decide)] at hlay
        have h6 := u_store hfc hkC hkind hlay hi (hty x2 hk) hnar hfit
        exact W.putK hx hb (f := f) ⟨hown, hts _ hl, ⟨_, _, _, hi⟩, hst⟩ (by rw [q2]; exact h6) q1 q3 (by rw [hsl]; exact k2_hasslot (q4 x2 hk)) rfl rfl hd hgo
      · have hlay := hts _ (hin _ (u_in_lay hk))
        unfold u_lay at hlay
        rw [if_pos hfin] at hlay
        have hcf : m.cls = cf := by
          obtain ⟨_, _, c', _, _, _, -, -, hf', -, -, -, hown2, -⟩ := Cond.laysFinal_spec hlay
          have e1 : c' = cf := by have := hi.symm.trans hf'; simp at this; exact this.1.symm
          rw [hdecl] at hown2
          rw [← e1]; exact Option.some.inj (hown.symm.trans hown2)
        have h6 := u_fits hfc hkC hkind (Or.inr hlay) hi (hty x2 hk) hnar hfit
        exact W.putFinK hx hb hown (hts _ hl) hi hst hcf (hnm.trans hini) (by rw [q2]; exact h6) q1 q3 (by rw [hsl]; exact k2_hasslot (q4 x2 hk)) rfl rfl hd hgo
    · cases hs
  · cases hs
theorem ev_s_iald (X : ev_X p R s m args meth c D bs sa T d) (hd : decode T.1.2.2.1 pc = .ok (.iaload, 1)) (hn : nx = pc + 1)
    (hs : ev_iald nx lo sk h = some (.inl cf')) (kk : ev_G p l e R s m args below meth c D bs T c0 s0 Q cf') : ev_G p l e R s m args below meth c D bs T c0 s0 Q (pc, lo, sk, h) := by
  obtain ⟨hx, hb, -⟩ := X
  unfold ev_iald at hs
  split at hs
  · rename_i i a r
    split at hs
    · rename_i x hxa
      obtain ⟨hq, hs⟩ := ev_cond (y := some (Sum.inl cf')) hs
      have hs : some (Sum.inl (nx, lo, .int (x.2 i.toNatClampNeg) :: r, h)) = some (.inl cf') := hs
      cases hs
      intro H locs ls hP hS hL
      subst hn
      obtain ⟨cell, h1, h2, h3, h4, h5⟩ := hP.1 a _ (ev_ia_spec hxa)
      exact W.iald (v := .int (x.2 i.toNatClampNeg)) hx hb h1 h2 h3 (by rw [h4]; exact ev_in_not hq) (h5 _ (ev_in_spec hq).2) rfl rfl hd (kk H locs ls hP hS hL)
    · cases hs
  · cases hs
theorem ev_s_lald (X : ev_X p R s m args meth c D bs sa T d) (hd : decode T.1.2.2.1 pc = .ok (.laload, 1)) (hn : nx = pc + 1)
    (hs : ev_lald nx lo sk h = some (.inl cf')) (kk : ev_G p l e R s m args below meth c D bs T c0 s0 Q cf') : ev_G p l e R s m args below meth c D bs T c0 s0 Q (pc, lo, sk, h) := by
  obtain ⟨hx, hb, -⟩ := X
  unfold ev_lald at hs
  split at hs
  · rename_i i a r
    split at hs
    · rename_i x hxa
      obtain ⟨hq, hs⟩ := ev_cond (y := some (Sum.inl cf')) hs
      have hs : some (Sum.inl (nx, lo, .long (x.2 i.toNatClampNeg) :: r, h)) = some (.inl cf') := hs
      cases hs
      intro H locs ls hP hS hL
      subst hn
      obtain ⟨cell, h1, h2, h3, h4, h5⟩ := hP.1 a _ (ev_la_spec hxa)
      exact W.lald (v := .long (x.2 i.toNatClampNeg)) hx hb h1 h2 h3 (by rw [h4]; exact ev_in_not hq) (h5 _ (ev_in_spec hq).2) rfl rfl hd (kk H locs ls hP hS hL)
    · cases hs
  · cases hs
theorem ev_s_aald (X : ev_X p R s m args meth c D bs sa T d) (hd : decode T.1.2.2.1 pc = .ok (.aaload, 1)) (hn : nx = pc + 1)
    (hs : ev_aald nx lo sk h = some (.inl cf')) (kk : ev_G p l e R s m args below meth c D bs T c0 s0 Q cf') : ev_G p l e R s m args below meth c D bs T c0 s0 Q (pc, lo, sk, h) := by
  obtain ⟨hx, hb, -⟩ := X
  unfold ev_aald at hs
  split at hs
  · rename_i i a r
    split at hs
    · rename_i x hxa
      obtain ⟨hq, hs⟩ := ev_cond (y := some (Sum.inl cf')) hs
      have hs : some (Sum.inl (nx, lo, va_rf (x.2 i.toNatClampNeg) :: r, h)) = some (.inl cf') := hs
      cases hs
      intro H locs ls hP hS hL
      subst hn
      obtain ⟨⟨cell, h1, h2, h3, h4, h5⟩, -⟩ := hP.1 a _ (ev_ra_spec hxa)
      exact W.aald (v := va_rf (x.2 i.toNatClampNeg)) (ty := .object "EnclaveMonitor$Page") hx hb h1 h2 rfl h3 (by rw [h4]; exact ev_in_not hq) (h5 _ (ev_in_spec hq).2) rfl rfl hd (kk H locs ls hP hS hL)
    · cases hs
  · cases hs
theorem ev_s_iast (X : ev_X p R s m args meth c D bs sa T d) (hd : decode T.1.2.2.1 pc = .ok (.iastore, 1)) (hn : nx = pc + 1)
    (hs : ev_iast bs nx lo sk h = some (.inl cf')) (kk : ev_G p l e R s m args below meth c D bs T c0 s0 Q cf') : ev_G p l e R s m args below meth c D bs T c0 s0 Q (pc, lo, sk, h) := by
  obtain ⟨hx, hb, -⟩ := X
  unfold ev_iast at hs
  split at hs
  · rename_i w i a r
    split at hs
    · rename_i x hxa
      obtain ⟨hq, hs⟩ := ev_cond (y := some (Sum.inl cf')) hs
      rw [Bool.and_eq_true] at hq
      have hs : some (Sum.inl (nx, lo, r, ev_up h a (.inr (.inl (x.1, upd x.2 i.toNatClampNeg w))))) = some (.inl cf') := hs
      cases hs
      intro H locs ls hP hS hL
      subst hn
      obtain ⟨cell, h1, h2, h3, h4, h5⟩ := hP.1 a _ (ev_ia_spec hxa)
      refine W.iast hx hb h1 h2 h3 (by rw [h4]; exact ev_in_not hq.2) rfl rfl hd fun H1 e1 z oq => ?_
      refine kk H1 _ ls (hP.put z oq ?_) (hS.put z oq (Nat.le_of_ble_eq_true hq.1)) hL
      exact ev_AR.store h1 h2 h3 h4 h5 (ev_in_spec hq.2).2 e1 (fun k _ => by by_cases hk : k = i.toNatClampNeg <;> simp [upd, hk])
    · cases hs
  · cases hs
theorem ev_s_last (X : ev_X p R s m args meth c D bs sa T d) (hd : decode T.1.2.2.1 pc = .ok (.lastore, 1)) (hn : nx = pc + 1)
    (hs : ev_last bs nx lo sk h = some (.inl cf')) (kk : ev_G p l e R s m args below meth c D bs T c0 s0 Q cf') : ev_G p l e R s m args below meth c D bs T c0 s0 Q (pc, lo, sk, h) := by
  obtain ⟨hx, hb, -⟩ := X
  unfold ev_last at hs
  split at hs
  · rename_i w i a r
    split at hs
    · rename_i x hxa
      obtain ⟨hq, hs⟩ := ev_cond (y := some (Sum.inl cf')) hs
      rw [Bool.and_eq_true] at hq
      have hs : some (Sum.inl (nx, lo, r, ev_up h a (.inr (.inr (.inl (x.1, vp_updL x.2 i.toNatClampNeg w)))))) = some (.inl cf') := hs
      cases hs
      intro H locs ls hP hS hL
      subst hn
      obtain ⟨cell, h1, h2, h3, h4, h5⟩ := hP.1 a _ (ev_la_spec hxa)
      refine W.last hx hb h1 h2 h3 (by rw [h4]; exact ev_in_not hq.2) rfl rfl hd fun H1 e1 z oq => ?_
      refine kk H1 _ ls (hP.put z oq ?_) (hS.put z oq (Nat.le_of_ble_eq_true hq.1)) hL
      exact ev_AR.store h1 h2 h3 h4 h5 (ev_in_spec hq.2).2 e1 (fun k _ => by by_cases hk : k = i.toNatClampNeg <;> simp [vp_updL, hk])
    · cases hs
  · cases hs
theorem ev_s_aast (X : ev_X p R s m args meth c D bs sa T d) (hd : decode T.1.2.2.1 pc = .ok (.aastore, 1)) (hn : nx = pc + 1)
    (hs : ev_aast bs 1 nx lo sk h = some (.inl cf')) (kk : ev_G p l e R s m args below meth c D bs T c0 s0 Q cf') : ev_G p l e R s m args below meth c D bs T c0 s0 Q (pc, lo, sk, h) := by
  obtain ⟨hx, hb, -, -, -, -, -, -, hK, -⟩ := X
  unfold ev_aast at hs
  split at hs
  · rename_i i a r
    split at hs
    · rename_i x hxa
      obtain ⟨hq, hs⟩ := ev_cond (y := some (Sum.inl cf')) hs
      rw [Bool.and_eq_true] at hq
      have hs : some (Sum.inl (nx, lo, r, ev_up h a (.inr (.inr (.inr (x.1, va_up x.2 i.toNatClampNeg none)))))) = some (.inl cf') := hs
      cases hs
      intro H locs ls hP hS hL
      subst hn
      obtain ⟨⟨cell, h1, h2, h3, h4, h5⟩, ⟨cell', k, g1, g2, g3⟩⟩ := hP.1 a _ (ev_ra_spec hxa)
      cases h1.symm.trans g1
      refine va_WaastN hx hb h1 h2 h3 (by rw [h4]; exact ev_in_not hq.2) rfl rfl hd fun H1 e1 z oq => ?_
      refine kk H1 _ ls (hP.put z oq ⟨?_, ⟨_, k, e1, g2, g3⟩⟩) (hS.put z oq (Nat.le_of_ble_eq_true hq.1)) hL
      exact ev_AR.store h1 h2 h3 h4 h5 (ev_in_spec hq.2).2 e1 (fun k _ => by by_cases hk : k = i.toNatClampNeg <;> simp [va_up, hk, va_rf])
    · cases hs
  · rename_i b i a r
    split at hs
    · rename_i x fs hxa hfs
      obtain ⟨hq, hs⟩ := ev_cond (y := some (Sum.inl cf')) hs
      rw [Bool.and_eq_true] at hq
      have hs : some (Sum.inl (nx, lo, r, ev_up h a (.inr (.inr (.inr (x.1, va_up x.2 i.toNatClampNeg (some b))))))) = some (.inl cf') := hs
      cases hs
      intro H locs ls hP hS hL
      subst hn
      obtain ⟨⟨cell, h1, h2, h3, h4, h5⟩, ⟨cell', k, g1, g2, g3⟩⟩ := hP.1 a _ (ev_ra_spec hxa)
      cases h1.symm.trans g1
      obtain ⟨r', k1, k2, cv, k3, k4, k5, k6⟩ := hP.1 b _ (ev_obj_spec hfs)
      have hcls := (hK.1.1 1 _ (rfl : vwCl[1]? = some (RX1, TX1, 8))).2
      obtain ⟨kC, hkC, -⟩ := hcls.2
      refine W.aast (t := .object "EnclaveMonitor$Page") hx hb h1 h2.1 h3 g2 g3 rfl hkC ⟨(ev_in_spec hq.2).1, by rw [h4]; exact (ev_in_spec hq.2).2⟩ k3 (fun q z => by rw [k5] at z; cases z) (by rw [k4]; exact hkC) (by rw [k4]; exact va_assign hcls) rfl rfl hd fun H1 e1 z oq => ?_
      refine kk H1 _ ls (hP.put z oq ⟨?_, ⟨_, k, e1, g2, g3⟩⟩) (hS.put z oq (Nat.le_of_ble_eq_true hq.1)) hL
      exact ev_AR.store h1 h2 h3 h4 h5 (ev_in_spec hq.2).2 e1 (fun k _ => by by_cases hk : k = i.toNatClampNeg <;> simp [va_up, hk, va_rf])
    · cases hs
  · cases hs
theorem ev_s_alen (X : ev_X p R s m args meth c D bs sa T d) (hd : decode T.1.2.2.1 pc = .ok (.arraylength, 1)) (hn : nx = pc + 1)
    (hs : ev_alen nx lo sk h = some (.inl cf')) (kk : ev_G p l e R s m args below meth c D bs T c0 s0 Q cf') : ev_G p l e R s m args below meth c D bs T c0 s0 Q (pc, lo, sk, h) := by
  obtain ⟨hx, hb, -⟩ := X
  unfold ev_alen at hs
  split at hs
  · rename_i a r
    split at hs
    · rename_i n hna
      have hs : some (Sum.inl (nx, lo, .int (Int32.ofNat n) :: r, h)) = some (.inl cf') := hs
      cases hs
      intro H locs ls hP hS hL
      subst hn
      unfold ev_len at hna
      split at hna
      · rename_i x hxa; cases hna; obtain ⟨cell, h1, h2, h3, h4, h5⟩ := hP.1 a _ hxa
        exact W.alen hx hb h1 h2 (by rw [h4]) rfl rfl hd (kk H locs ls hP hS hL)
      · rename_i x hxa; cases hna; obtain ⟨cell, h1, h2, h3, h4, h5⟩ := hP.1 a _ hxa
        exact W.alen hx hb h1 h2 (by rw [h4]) rfl rfl hd (kk H locs ls hP hS hL)
      · rename_i x hxa; cases hna; obtain ⟨⟨cell, h1, h2, h3, h4, h5⟩, -⟩ := hP.1 a _ hxa
        exact W.alen hx hb h1 h2 (by rw [h4]) rfl rfl hd (kk H locs ls hP hS hL)
      · cases hna
    · cases hs
  · cases hs
end EVT
end
section
theorem ev_nat {z : Int32} (hz : ¬ z < 0) : z.toInt = (z.toNatClampNeg : Int) := by
  have hz0 : (0 : Int) ≤ z.toInt := by
    have := Int32.not_lt.mp hz
    simpa using Int32.le_iff_toInt_le.mp this
  show z.toInt = ((z.toInt.toNat : Nat) : Int)
  omega
theorem ev_nfw : nativeFrameWords "java/lang/System" "arraycopy" 5 ≤ 21 := by decide +kernel
theorem ev_cnew {h h' : e_H} {o : e_O} {n z : Nat} (hn : ev_new h o n = some (z, h')) : ev_cn h' = ev_cn h + 1 ∧ ev_sn h' = ev_sn h + n := by
  unfold ev_new at hn
  split at hn
  · rename_i w u hw
    simp only [Option.some.injEq, Prod.mk.injEq] at hn
    obtain ⟨rfl, rfl⟩ := hn
    exact ⟨by simp [ev_cn, hw], by simp [ev_sn, hw]⟩
  · cases hn
section EVU
variable {p : Program} {l : Launch} {e : Env} {R : Room} {s : State} {m : MethodId} {args : Array Value} {below : List Frame} {meth : Method} {c : Code} {D : va_G} {bs : Nat} {sa : Nat → Nat} {T : e_M} {d c0 s0 : Nat} {Q : State → Prop} {tb : Nat → Option e_M}
variable {pc nx x1 x2 : Nat} {v : Value} {ts : List Nat} {lo : e_L} {sk : List Value} {h : e_H} {cf' : e_C}
theorem ev_s_new {idx : Nat} (X : ev_X p R s m args meth c D bs sa T d) (hd : decode T.1.2.2.1 pc = .ok (.new idx, 3)) (hn : nx = pc + 3) (hc : c0 ≤ ev_cn h) (hs0 : s0 ≤ ev_sn h) (hcap : ev_cn cf'.2.2.2 - c0 ≤ R.cells ∧ ev_sn cf'.2.2.2 - s0 ≤ R.slots)
    (hW : ∃ (r : vw_C) (ty : Nat → FieldType), vwCl[x1]? = some r ∧ (∀ w ∈ u_ws r.1 r.2.1 r.2.2, w ∈ ev_GW) ∧ x2 = r.2.2 ∧ (∀ k, k < r.2.2 → parseFieldDescriptor (r.2.1 k).2.2.1 = some (ty k)) ∧ Cond.classLink T.1.1 idx r.1 ∈ ev_GW ∧ Cond.instantiable r.1 r.2.2 ∈ ev_GW ∧ Cond.initialized r.1 ∈ ev_GW ∧ ts.length = r.2.2 ∧ ∀ j, j < r.2.2 → defaultValue (ty j) = vp_V (ts.map ev_z) j)
    (hs : ev_nob (.inl (x1, ts.map ev_z)) x2 nx lo sk h = some (.inl cf')) (kk : ev_G p l e R s m args below meth c D bs T c0 s0 Q cf') : ev_G p l e R s m args below meth c D bs T c0 s0 Q (pc, lo, sk, h) := by
  obtain ⟨hx, hb, -, -, hown, -, -, hts, hK, -⟩ := X
  obtain ⟨⟨C, Tc, N⟩, ty, hr, hin, hk, hty, hl1, hl2, hl3, hlen, hdef⟩ := hW
  dsimp only at hin hk hty hl1 hl2 hl3 hlen hdef
  unfold ev_nob at hs
  split at hs
  · rename_i z h' hz
    have hs : some (Sum.inl (nx, lo, .ref z :: sk, h')) = some (.inl cf') := hs
    cases hs
    dsimp only at hcap
    intro H locs ls hP hS hL
    subst hn
    subst hk
    have hKn := hK.1.1 x1 _ hr
    obtain ⟨e1, e2⟩ := ev_cnew hz
    refine W.newcK hx hb hown (hts _ hl1) (hts _ hl2) (hts _ hl3) rfl hd (by dsimp only; omega) (by dsimp only; omega) hKn.2.1 rfl fun H1 kC hkC f1 z1 o1 => ?_
    have hob := (u_born ty hts hin hKn hkC f1 hty).to hdef
    obtain ⟨rfl, hP', -⟩ := hP.new hz z1 o1 ⟨(C, Tc, x2), hr, by simpa using hlen, hob⟩
    have hS' : va_S (fun q => bs ≤ q) s.heap H1 locs := ⟨by have := hS.1; omega, fun q q1 q2 => (o1 q (Nat.lt_of_lt_of_le q1 hS.1)).trans (hS.2.1 q q1 q2), hS.2.2⟩
    exact W.cs (by dsimp only; omega) (by dsimp only; omega) (kk H1 locs ls hP' hS' hL)
  · cases hs
theorem ev_s_newa {at_ : ArrayType} {o : Nat → e_O} {ty : FieldType} (X : ev_X p R s m args meth c D bs sa T d) (hd : decode T.1.2.2.1 pc = .ok (.newarray at_, 2)) (hn : nx = pc + 2) (hc : c0 ≤ ev_cn h) (hs0 : s0 ≤ ev_sn h) (hcap : ev_cn cf'.2.2.2 - c0 ≤ R.cells ∧ ev_sn cf'.2.2.2 - s0 ≤ R.slots)
    (hty : newarray.typeOf at_ = ty) (hw : Cond.arrayClass ty ∈ ev_GW) (hcb : componentBytes ty ≤ 8) (hcr : ∀ (a n : Nat) (H : Heap), ev_AR s a ty n (fun _ => defaultValue ty) H → ev_CR D s a (o n) H)
    (hs : ev_newa o nx lo sk h = some (.inl cf')) (kk : ev_G p l e R s m args below meth c D bs T c0 s0 Q cf') : ev_G p l e R s m args below meth c D bs T c0 s0 Q (pc, lo, sk, h) := by
  obtain ⟨hx, hb, -, -, hown, -, -, hts, hK, -⟩ := X
  subst hty
  unfold ev_newa at hs
  split at hs
  · rename_i n r
    obtain ⟨hq, hs⟩ := ev_cond (y := some (Sum.inl cf')) hs
    rw [Bool.and_eq_true] at hq
    have hn0 : ¬ n < 0 := by simpa using hq.1
    have hn5 := Nat.le_of_ble_eq_true hq.2
    split at hs
    · rename_i z h' hz
      have hs : some (Sum.inl (nx, lo, .ref z :: r, h')) = some (.inl cf') := hs
      cases hs
      dsimp only at hcap
      intro H locs ls hP hS hL
      subst hn
      obtain ⟨e1, e2⟩ := ev_cnew hz
      refine W.newaK hx hb (hts _ hw) rfl hd rfl hn0 rfl (Nat.le_trans (Nat.mul_le_mul hn5 hcb) (by decide)) (by dsimp only; omega) (by dsimp only; omega) rfl fun H1 cA f1 z1 o1 hA => ?_
      obtain ⟨rfl, hP', -⟩ := hP.new hz z1 o1 (hcr _ _ _ ⟨_, f1, hA _ _, (fun q => by cases q), arrV_size _ _ _, fun j hj => arrV_read _ _ hj⟩)
      have hS' : va_S (fun q => bs ≤ q) s.heap H1 locs := ⟨by have := hS.1; omega, fun q q1 q2 => (o1 q (Nat.lt_of_lt_of_le q1 hS.1)).trans (hS.2.1 q q1 q2), hS.2.2⟩
      exact W.cs (by dsimp only; omega) (by dsimp only; omega) (kk H1 locs ls hP' hS' hL)
    · cases hs
  · cases hs
theorem ev_s_anew {idx : Nat} (X : ev_X p R s m args meth c D bs sa T d) (hd : decode T.1.2.2.1 pc = .ok (.anewarray idx, 3)) (hn : nx = pc + 3) (hc : c0 ≤ ev_cn h) (hs0 : s0 ≤ ev_sn h) (hcap : ev_cn cf'.2.2.2 - c0 ≤ R.cells ∧ ev_sn cf'.2.2.2 - s0 ≤ R.slots)
    (hW : Cond.classLink T.1.1 idx "EnclaveMonitor$Page" ∈ ev_GW)
    (hs : ev_newa (fun n => .inr (.inr (.inr (n, fun _ => none)))) nx lo sk h = some (.inl cf')) (kk : ev_G p l e R s m args below meth c D bs T c0 s0 Q cf') : ev_G p l e R s m args below meth c D bs T c0 s0 Q (pc, lo, sk, h) := by
  obtain ⟨hx, hb, -, -, hown, -, -, hts, hK, -⟩ := X
  unfold ev_newa at hs
  split at hs
  · rename_i n r
    obtain ⟨hq, hs⟩ := ev_cond (y := some (Sum.inl cf')) hs
    rw [Bool.and_eq_true] at hq
    have hn0 : ¬ n < 0 := by simpa using hq.1
    have hn5 := Nat.le_of_ble_eq_true hq.2
    split at hs
    · rename_i z h' hz
      have hs : some (Sum.inl (nx, lo, .ref z :: r, h')) = some (.inl cf') := hs
      cases hs
      dsimp only at hcap
      intro H locs ls hP hS hL
      subst hn
      obtain ⟨e1, e2⟩ := ev_cnew hz
      refine W.anew hx hb hown (hts _ hW) (va_AO.use hK.2.2.2) rfl hd rfl hn0 (by omega) (by dsimp only; omega) (by dsimp only; omega) fun cA kA comp f1 f2 f3 f4 => ?_
      have hcomp : comp = D.1 1 := Option.some.inj (f4.symm.trans (hK.1.1 1 _ (rfl : vwCl[1]? = some (RX1, TX1, 8))).2.1)
      subst hcomp
      generalize hH1 : H.push ({ cls := cA, slots := Array.replicate n.toNatClampNeg .null, vm := .none } : Cell) = H1
      have z1 : H1.size = H.size + 1 := by rw [← hH1, Array.size_push]
      have g1 : H1[H.size]? = some (arrV cA n.toNatClampNeg (fun _ => .null)) := by rw [← hH1, Array.getElem?_push_size, ← arrV_new]
      have o1 : ∀ q : Nat, q < H.size → H1[q]? = H[q]? := fun q hq => by rw [← hH1, Array.getElem?_push, if_neg (Nat.ne_of_lt hq)]
      obtain ⟨rfl, hP', -⟩ := hP.new hz z1 o1 ⟨⟨_, g1, ⟨(fun q q2 => by cases q2), kA, f2, _, f3⟩, (fun q => by cases q), arrV_size _ _ _, fun j hj => arrV_read _ _ hj⟩, ⟨_, kA, g1, f2, f3⟩⟩
      have hS' : va_S (fun q => bs ≤ q) s.heap H1 locs := ⟨by have := hS.1; omega, fun q q1 q2 => (o1 q (Nat.lt_of_lt_of_le q1 hS.1)).trans (hS.2.1 q q1 q2), hS.2.2⟩
      exact W.cs (by dsimp only; omega) (by dsimp only; omega) (kk H1 locs ls hP' hS' hL)
    · cases hs
  · cases hs
theorem ev_s_cpy {idx : Nat} (X : ev_X p R s m args meth c D bs sa T d) (hGl : ev_glob) (hd : decode T.1.2.2.1 pc = .ok (.invokestatic idx, 3)) (hn : nx = pc + 3)
    (hW : Cond.methodLink T.1.1 idx arraycopyName ∈ ev_GW)
    (hs : ev_cpy bs nx lo sk h = some (.inl cf')) (kk : ev_G p l e R s m args below meth c D bs T c0 s0 Q cf') : ev_G p l e R s m args below meth c D bs T c0 s0 Q (pc, lo, sk, h) := by
  obtain ⟨hx, hb, hml, -, hown, -, -, hts, hK, hRf, hRl, -⟩ := X
  unfold ev_cpy at hs
  split at hs
  · rename_i n dp a sp a0 r
    split at hs
    · rename_i x y hxa hya
      obtain ⟨hq, hs⟩ := ev_cond (y := some (Sum.inl cf')) hs
      simp only [Bool.and_eq_true, decide_eq_true_eq] at hq
      obtain ⟨q0, q1, h1, h2, h3, h4, h5⟩ := hq
      have hba := Nat.le_of_ble_eq_true q0
      have hsum := Nat.le_of_ble_eq_true q1
      have h4 := Nat.le_of_ble_eq_true h4
      have h5 := Nat.le_of_ble_eq_true h5
      have hs : some (Sum.inl (nx, lo, r, ev_up h a (.inr (.inl (y.1, va_cpy x.2 y.2 sp.toNatClampNeg dp.toNatClampNeg n.toNatClampNeg))))) = some (.inl cf') := hs
      cases hs
      intro H locs ls hP hS hL
      subst hn
      obtain ⟨cs, c1, c2, c3, c4, c5⟩ := hP.1 a0 _ (ev_ia_spec hxa)
      obtain ⟨cd, d1, d2, d3, d4, d5⟩ := hP.1 a _ (ev_ia_spec hya)
      dsimp only at c5 d5 c4 d4
      obtain ⟨k0, hk0, cm0, hkk0⟩ := c2.2
      obtain ⟨k1, hk1, cm1, hkk1⟩ := d2.2
      have hget : ∀ i, i < n.toNatClampNeg → cs.slots.getD (sp.toNatClampNeg + i) .null = .int (x.2 (sp.toNatClampNeg + i)) := by
        intro i hi
        rw [Array.getD_eq_getD_getElem?, c5 _ (by omega)]
        rfl
      intro S0 hS0 X0
      have hsz : ls.size = c.maxLocals := by rw [hml]; exact hL.2.1
      obtain ⟨vm', X', step⟩ := X0.arraycopy hx hown (hts _ hW) (hts _ hGl.1) (hts _ hGl.2.1) (hts _ hGl.2.2.1) (src := a0) (dst := a) (cs := cs) (cd := cd) (srcPos := sp) (destPos := dp) (n := n) (by rw [hS0]; exact c1) (by rw [hS0]; exact d1)
        c2.1 d2.1 c3 d3 hk0 hk1 hkk0 hkk1 (by simp [refKind]) h1 h2 h3
        (by rw [ev_nat h1, ev_nat h3, c4]; omega)
        (by rw [ev_nat h2, ev_nat h3, d4]; omega)
        (fun vm₁ _ i hi => by
          rw [hget i hi]
          exact ⟨rfl, trivial⟩)
        (g := F0 m pc ls (.int n :: .int dp :: .ref a :: .int sp :: .ref a0 :: r)) rfl hsz (rest := r) rfl (by rw [hb]; exact hd) (by omega) (by have := ev_nfw; unfold ev_sum at hsum; show 2 * 0 + _ + _ ≤ _; omega)
      have hcp : copied cs cd sp dp n = cd.storeRun dp.toNatClampNeg (cs.stretch sp.toNatClampNeg n.toNatClampNeg) := rfl
      obtain ⟨f1, f2, f3, -, -⟩ := cd.storeRun_facts dp.toNatClampNeg (cs.stretch sp.toNatClampNeg n.toNatClampNeg)
      have hlen : (cs.stretch sp.toNatClampNeg n.toNatClampNeg).length = n.toNatClampNeg := by simp [Cell.stretch]
      have hl : a < H.size := (Array.getElem?_eq_some_iff.mp d1).1
      generalize hcc : copied cs cd sp dp n = cc at X' step
      rw [hcc] at hcp
      have hheap : ((S0.setVm vm').setCell a cc).heap = H.setIfInBounds a cc := by rw [← hS0]; rfl
      have oq : ∀ q : Nat, q ≠ a → (H.setIfInBounds a cc)[q]? = H[q]? := fun q hq => by simp [Array.getElem?_setIfInBounds, Ne.symm hq]
      have z1 : (H.setIfInBounds a cc).size = H.size := by simp
      have hA : ev_AR s a .int y.1 (fun j => .int (va_cpy x.2 y.2 sp.toNatClampNeg dp.toNatClampNeg n.toNatClampNeg j)) (H.setIfInBounds a cc) := by
        refine ⟨cc, by simp [Array.getElem?_setIfInBounds, hl], ?_, by rw [hcp, f2]; exact d3, by rw [hcp, f3, d4], fun j hj => ?_⟩
        · exact ⟨fun k => by rw [hcp, f2]; exact d2.1 k, k1, by rw [hcp, f1]; exact hk1, cm1, hkk1⟩
        · rw [hcp, Cell.storeRun_get _ _ _ _ (by rw [hlen, d4]; exact h5), hlen]
          by_cases hin : dp.toNatClampNeg ≤ j ∧ j < dp.toNatClampNeg + n.toNatClampNeg
          · rw [if_pos hin]
            simp only [Cell.stretch, List.getElem?_map]
            rw [List.getElem?_range (by omega)]
            show some (cs.slots.getD (sp.toNatClampNeg + (j - dp.toNatClampNeg)) .null) = _
            rw [hget _ (by omega)]
            simp [va_cpy, hin]
          · rw [if_neg hin, d5 j hj]
            simp [va_cpy, hin]
      obtain ⟨t, a1, b1⟩ := kk _ (locs ++ (cs.stretch sp.toNatClampNeg n.toNatClampNeg).zipIdx.map fun q => ⟨a, dp.toNatClampNeg + q.2⟩) ls (hP.put z1 oq hA) ⟨by rw [z1]; exact hS.1, fun q g1 g2 => by
          rw [oq q (fun e => g2 (by rw [e]; exact hba))]
          exact hS.2.1 q g1 g2, fun q hq => by
          rcases List.mem_append.mp hq with h | h
          · exact hS.2.2 q h
          · obtain ⟨z, -, hz⟩ := List.mem_map.mp h
            rw [← hz]
            exact hba⟩ hL _ hheap X'
      exact ⟨t, step t a1, b1⟩
    · cases hs
  · cases hs
end EVU
end
section
section EVV
variable {p : Program} {l : Launch} {e : Env} {R : Room} {s : State} {m : MethodId} {args : Array Value} {below : List Frame} {meth : Method} {c : Code} {D : va_G} {bs : Nat} {sa : Nat → Nat} {T : e_M} {d c0 s0 : Nat} {Q : State → Prop} {tb : Nat → Option e_M}
variable {pc nx x1 x2 : Nat} {v : Value} {ts : List Nat} {lo : e_L} {sk : List Value} {h : e_H} {cf' : e_C}
theorem ev_s_tsw {df lo0 hi0 : Int} {offs : Array Int} {len : Nat} {x : Int32} {r : List Value} (X : ev_X p R s m args meth c D bs sa T d) (hd : decode T.1.2.2.1 pc = .ok (.tableswitch df lo0 hi0 offs, len)) (h1 : lo0 = 0) (h2 : hi0 + 1 = (offs.size : Int)) (h3 : ts.map (fun t : Nat => (t : Int) - (pc : Int)) = df :: offs.toList)
    (kk : ev_G p l e R s m args below meth c D bs T c0 s0 Q (ev_tsw ts x, lo, r, h)) : ev_G p l e R s m args below meth c D bs T c0 s0 Q (pc, lo, .int x :: r, h) := by
  obtain ⟨hx, hb, -⟩ := X
  subst h1
  intro H locs ls hP hS hL
  have kk := kk H locs ls hP hS hL
  match ts, h3, kk with
  | t0 :: tg, h3, kk =>
    simp only [List.map_cons, List.cons.injEq] at h3
    obtain ⟨h3, h4⟩ := h3
    have hlen : tg.length = offs.size := by
      have := congrArg List.length h4
      simpa using this
    dsimp only [ev_tsw] at kk
    by_cases hin : 0 ≤ x.toInt ∧ x.toInt < (tg.length : Int)
    · rw [if_pos hin] at kk
      have hk : x.toInt.toNat < tg.length := by omega
      have hg : tg[x.toInt.toNat]? = some (tg.getD x.toInt.toNat t0) := by
        rw [List.getD_eq_getElem?_getD, List.getElem?_eq_getElem hk]; rfl
      have ho : offs[(x.toInt - 0).toNat]? = some ((tg.getD x.toInt.toNat t0 : Int) - (pc : Int)) := by
        rw [show x.toInt - 0 = x.toInt by omega, ← Array.getElem?_toList, ← h4, List.getElem?_map, hg]; rfl
      exact lv_tableIn hx hb hd (by omega) (by omega) ho (by omega) kk
    · rw [if_neg hin] at kk
      exact lv_tableOut hx hb hd (by omega) (by omega) kk
set_option maxHeartbeats 4000000 in
set_option maxRecDepth 100000 in
theorem ev_step {cf : e_C} (X : ev_X p R s m args meth c D bs sa T d) (hGl : ev_glob) (hok : ev_ok tb T) (hs : ev_stp bs sa T cf = some (.inl cf')) (hc : c0 ≤ ev_cn cf.2.2.2) (hs0 : s0 ≤ ev_sn cf.2.2.2) (hcap : ev_cn cf'.2.2.2 - c0 ≤ R.cells ∧ ev_sn cf'.2.2.2 - s0 ≤ R.slots)
    (kk : ev_G p l e R s m args below meth c D bs T c0 s0 Q cf') : ev_G p l e R s m args below meth c D bs T c0 s0 Q cf := by
  obtain ⟨pc, lo, sk, h⟩ := cf
  unfold ev_stp at hs
  dsimp only at hs hc hs0
  split at hs
  · rename_i i nx x1 x2 v ts hf
    obtain ⟨hB, hW⟩ := hok.2.2 _ (ev_fnd_mem _ _ _ hf)
    dsimp only at hB hW
    simp only [ev_okB, Bool.and_eq_true, Bool.or_eq_true, decide_eq_true_eq] at hB
    obtain ⟨hd0, hlt, hln, hcc⟩ := hB
    have hd2 : ev_ln i ≠ 0 → decode T.1.2.2.1 pc = .ok (i, ev_ln i) ∧ nx = pc + ev_ln i := by
      intro hne
      rcases hln with q | q
      · exact absurd q hne
      · refine ⟨?_, q⟩
        rw [hd0, q]
        congr 2
        omega
    have X' := X
    obtain ⟨hx, hb, hml, hret, hown, hnm, hlk, hts, hK, hRf, hRl, hbs⟩ := X'
    have go : ∀ {nx9 : Nat} {lo9 : e_L} {sk9 : List Value} {h9 : e_H}, ev_go nx9 lo9 sk9 h9 = some (.inl cf') → cf' = (nx9, lo9, sk9, h9) := by
      intro nx9 lo9 sk9 h9 q
      have q : some (Sum.inl (nx9, lo9, sk9, h9)) = some (Sum.inl cf') := q
      cases q; rfl
    unfold ev_ins at hs
    split at hs
    · obtain ⟨hd, rfl⟩ := hd2 (Nat.succ_ne_zero _); have := go hs; subst this; simp only [ev_okc, decide_eq_true_eq] at hcc; subst hcc; exact fun H locs ls hP hS hL => lv_iconst hx hb hd rfl (kk H locs ls hP hS hL)
    · obtain ⟨hd, rfl⟩ := hd2 (Nat.succ_ne_zero _); have := go hs; subst this; simp only [ev_okc, decide_eq_true_eq] at hcc; subst hcc; exact fun H locs ls hP hS hL => lv_bipush hx hb hd rfl (kk H locs ls hP hS hL)
    · obtain ⟨hd, rfl⟩ := hd2 (Nat.succ_ne_zero _); have := go hs; subst this; simp only [ev_okc, decide_eq_true_eq] at hcc; subst hcc; exact fun H locs ls hP hS hL => lv_sipush hx hb hd rfl (kk H locs ls hP hS hL)
    · obtain ⟨hd, rfl⟩ := hd2 (Nat.succ_ne_zero _); have := go hs; subst this; simp only [ev_okc, decide_eq_true_eq] at hcc; subst hcc; exact fun H locs ls hP hS hL => lv_lconst hx hb hd rfl (kk H locs ls hP hS hL)
    · obtain ⟨hd, rfl⟩ := hd2 (Nat.succ_ne_zero _); have := go hs; subst this; obtain ⟨z, rfl, hw⟩ := hW; exact fun H locs ls hP hS hL => lv_ldc hx hb hown (hts _ hw) hd (kk H locs ls hP hS hL)
    · obtain ⟨hd, rfl⟩ := hd2 (Nat.succ_ne_zero _); have := go hs; subst this; obtain ⟨z, rfl, hw⟩ := hW; exact fun H locs ls hP hS hL => lv_ldc2 hx hb hown (hts _ hw) hd (kk H locs ls hP hS hL)
    · obtain ⟨hd, rfl⟩ := hd2 (Nat.succ_ne_zero _); have := go hs; subst this; exact fun H locs ls hP hS hL => lv_null hx hb hd (kk H locs ls hP hS hL)
    · obtain ⟨hd, hn⟩ := hd2 (Nat.succ_ne_zero _); simp only [ev_okc, decide_eq_true_eq] at hcc; exact ev_s_load X hd hn (Or.inl ⟨rfl, Or.inr ⟨_, rfl, hcc⟩⟩) hs kk
    · obtain ⟨hd, hn⟩ := hd2 (Nat.succ_ne_zero _); simp only [ev_okc, decide_eq_true_eq] at hcc; exact ev_s_load X hd hn (Or.inl ⟨rfl, Or.inl (by rw [hcc])⟩) hs kk
    · obtain ⟨hd, hn⟩ := hd2 (Nat.succ_ne_zero _); simp only [ev_okc, decide_eq_true_eq] at hcc; exact ev_s_load X hd hn (Or.inr (Or.inl ⟨rfl, Or.inr ⟨_, rfl, hcc⟩⟩)) hs kk
    · obtain ⟨hd, hn⟩ := hd2 (Nat.succ_ne_zero _); simp only [ev_okc, decide_eq_true_eq] at hcc; exact ev_s_load X hd hn (Or.inr (Or.inl ⟨rfl, Or.inl (by rw [hcc])⟩)) hs kk
    · obtain ⟨hd, hn⟩ := hd2 (Nat.succ_ne_zero _); simp only [ev_okc, decide_eq_true_eq] at hcc; exact ev_s_load X hd hn (Or.inr (Or.inr ⟨rfl, Or.inr ⟨_, rfl, hcc⟩⟩)) hs kk
    · obtain ⟨hd, hn⟩ := hd2 (Nat.succ_ne_zero _); simp only [ev_okc, decide_eq_true_eq] at hcc; exact ev_s_load X hd hn (Or.inr (Or.inr ⟨rfl, Or.inl (by rw [hcc])⟩)) hs kk
    · obtain ⟨hd, hn⟩ := hd2 (Nat.succ_ne_zero _); simp only [ev_okc, decide_eq_true_eq] at hcc; exact ev_s_store X hd hn (Or.inl ⟨rfl, Or.inr ⟨_, rfl, hcc⟩⟩) hs kk
    · obtain ⟨hd, hn⟩ := hd2 (Nat.succ_ne_zero _); simp only [ev_okc, decide_eq_true_eq] at hcc; exact ev_s_store X hd hn (Or.inl ⟨rfl, Or.inl (by rw [hcc])⟩) hs kk
    · obtain ⟨hd, hn⟩ := hd2 (Nat.succ_ne_zero _); simp only [ev_okc, decide_eq_true_eq] at hcc; exact ev_s_storeL X hd hn (Or.inr ⟨_, rfl, hcc⟩) hs kk
    · obtain ⟨hd, hn⟩ := hd2 (Nat.succ_ne_zero _); simp only [ev_okc, decide_eq_true_eq] at hcc; exact ev_s_storeL X hd hn (Or.inl (by rw [hcc])) hs kk
    · obtain ⟨hd, hn⟩ := hd2 (Nat.succ_ne_zero _); simp only [ev_okc, decide_eq_true_eq] at hcc; exact ev_s_store X hd hn (Or.inr ⟨rfl, Or.inr ⟨_, rfl, hcc⟩⟩) hs kk
    · obtain ⟨hd, hn⟩ := hd2 (Nat.succ_ne_zero _); simp only [ev_okc, decide_eq_true_eq] at hcc; exact ev_s_store X hd hn (Or.inr ⟨rfl, Or.inl (by rw [hcc])⟩) hs kk
    · obtain ⟨hd, hn⟩ := hd2 (Nat.succ_ne_zero _); simp only [ev_okc, Bool.and_eq_true, decide_eq_true_eq] at hcc; obtain ⟨rfl, hv⟩ := hcc; exact ev_s_inc X hd hn hv hs kk
    · obtain ⟨hd, rfl⟩ := hd2 (Nat.succ_ne_zero _); unfold ev_bin at hs; split at hs
      · have := go hs; subst this; exact fun H locs ls hP hS hL => lv_iadd hx hb hd (kk H locs ls hP hS hL)
      · cases hs
    · obtain ⟨hd, rfl⟩ := hd2 (Nat.succ_ne_zero _); unfold ev_bin at hs; split at hs
      · have := go hs; subst this; exact fun H locs ls hP hS hL => lv_isub hx hb hd (kk H locs ls hP hS hL)
      · cases hs
    · obtain ⟨hd, rfl⟩ := hd2 (Nat.succ_ne_zero _); unfold ev_bin at hs; split at hs
      · have := go hs; subst this; exact fun H locs ls hP hS hL => lv_imul hx hb hd (kk H locs ls hP hS hL)
      · cases hs
    · obtain ⟨hd, rfl⟩ := hd2 (Nat.succ_ne_zero _); unfold ev_bin at hs; split at hs
      · have := go hs; subst this; exact fun H locs ls hP hS hL => lv_iand hx hb hd (kk H locs ls hP hS hL)
      · cases hs
    · obtain ⟨hd, rfl⟩ := hd2 (Nat.succ_ne_zero _); unfold ev_bin at hs; split at hs
      · have := go hs; subst this; exact fun H locs ls hP hS hL => lv_ior hx hb hd (kk H locs ls hP hS hL)
      · cases hs
    · obtain ⟨hd, rfl⟩ := hd2 (Nat.succ_ne_zero _); unfold ev_bin at hs; split at hs
      · have := go hs; subst this; exact fun H locs ls hP hS hL => lv_ixor hx hb hd (kk H locs ls hP hS hL)
      · cases hs
    · obtain ⟨hd, rfl⟩ := hd2 (Nat.succ_ne_zero _); unfold ev_bin at hs; split at hs
      · have := go hs; subst this; exact fun H locs ls hP hS hL => lv_ishl hx hb hd (kk H locs ls hP hS hL)
      · cases hs
    · obtain ⟨hd, rfl⟩ := hd2 (Nat.succ_ne_zero _); unfold ev_bin at hs; split at hs
      · have := go hs; subst this; exact fun H locs ls hP hS hL => lv_ishr hx hb hd (kk H locs ls hP hS hL)
      · cases hs
    · obtain ⟨hd, rfl⟩ := hd2 (Nat.succ_ne_zero _); unfold ev_bin at hs; split at hs
      · have := go hs; subst this; exact fun H locs ls hP hS hL => lv_iushr hx hb hd rfl (kk H locs ls hP hS hL)
      · cases hs
    · obtain ⟨hd, rfl⟩ := hd2 (Nat.succ_ne_zero _); unfold ev_div at hs; split at hs
      · rename_i y x r
        by_cases hy : y = 0
        · simp [hy] at hs
        · rw [decide_eq_false hy] at hs
          have := go hs; subst this; exact fun H locs ls hP hS hL => lv_idiv hx hb hd hy (kk H locs ls hP hS hL)
      · cases hs
    · obtain ⟨hd, rfl⟩ := hd2 (Nat.succ_ne_zero _); unfold ev_div at hs; split at hs
      · rename_i y x r
        by_cases hy : y = 0
        · simp [hy] at hs
        · rw [decide_eq_false hy] at hs
          have := go hs; subst this; exact fun H locs ls hP hS hL => lv_irem hx hb hd hy (kk H locs ls hP hS hL)
      · cases hs
    · obtain ⟨hd, rfl⟩ := hd2 (Nat.succ_ne_zero _); unfold ev_un at hs; split at hs
      · have := go hs; subst this; exact fun H locs ls hP hS hL => lv_ineg hx hb hd (kk H locs ls hP hS hL)
      · cases hs
    · obtain ⟨hd, rfl⟩ := hd2 (Nat.succ_ne_zero _); unfold ev_un at hs; split at hs
      · have := go hs; subst this; exact fun H locs ls hP hS hL => lv_i2l hx hb hd rfl (kk H locs ls hP hS hL)
      · cases hs
    · obtain ⟨hd, rfl⟩ := hd2 (Nat.succ_ne_zero _); unfold ev_un at hs; split at hs
      · have := go hs; subst this; exact fun H locs ls hP hS hL => lv_i2s hx hb hd rfl (kk H locs ls hP hS hL)
      · cases hs
    · obtain ⟨hd, rfl⟩ := hd2 (Nat.succ_ne_zero _); unfold ev_l2i at hs; split at hs
      · have := go hs; subst this; exact fun H locs ls hP hS hL => lv_l2i hx hb hd rfl (kk H locs ls hP hS hL)
      · cases hs
    · obtain ⟨hd, rfl⟩ := hd2 (Nat.succ_ne_zero _); unfold ev_binL at hs; split at hs
      · have := go hs; subst this; exact fun H locs ls hP hS hL => lv_ladd hx hb hd (kk H locs ls hP hS hL)
      · cases hs
    · obtain ⟨hd, rfl⟩ := hd2 (Nat.succ_ne_zero _); unfold ev_binL at hs; split at hs
      · have := go hs; subst this; exact fun H locs ls hP hS hL => lv_land hx hb hd (kk H locs ls hP hS hL)
      · cases hs
    · obtain ⟨hd, rfl⟩ := hd2 (Nat.succ_ne_zero _); unfold ev_binL at hs; split at hs
      · have := go hs; subst this; exact fun H locs ls hP hS hL => lv_lor hx hb hd (kk H locs ls hP hS hL)
      · cases hs
    · obtain ⟨hd, rfl⟩ := hd2 (Nat.succ_ne_zero _); unfold ev_binL at hs; split at hs
      · have := go hs; subst this; exact fun H locs ls hP hS hL => W.lcmp hx hb hd (kk H locs ls hP hS hL)
      · cases hs
    · obtain ⟨hd, rfl⟩ := hd2 (Nat.succ_ne_zero _); unfold ev_shL at hs; split at hs
      · have := go hs; subst this; exact fun H locs ls hP hS hL => lv_lshl hx hb hd rfl (kk H locs ls hP hS hL)
      · cases hs
    · obtain ⟨hd, rfl⟩ := hd2 (Nat.succ_ne_zero _); unfold ev_shL at hs; split at hs
      · have := go hs; subst this; exact fun H locs ls hP hS hL => lv_lshr hx hb hd rfl (kk H locs ls hP hS hL)
      · cases hs
    · obtain ⟨hd, rfl⟩ := hd2 (Nat.succ_ne_zero _); unfold ev_shL at hs; split at hs
      · have := go hs; subst this; exact fun H locs ls hP hS hL => lv_lushr hx hb hd rfl (kk H locs ls hP hS hL)
      · cases hs
    · obtain ⟨hd, rfl⟩ := hd2 (Nat.succ_ne_zero _); unfold ev_dup at hs; split at hs
      · obtain ⟨hq, hs⟩ := ev_cond (y := some (Sum.inl cf')) hs
        have := go hs; subst this; exact fun H locs ls hP hS hL => lv_dup hx hb hd (Nat.eq_of_beq_eq_true hq) (kk H locs ls hP hS hL)
      · cases hs
    · obtain ⟨hd, rfl⟩ := hd2 (Nat.succ_ne_zero _); unfold ev_dup2 at hs; split at hs
      · obtain ⟨hq, hs⟩ := ev_cond (y := some (Sum.inl cf')) hs
        rw [Bool.and_eq_true] at hq
        have := go hs; subst this; exact fun H locs ls hP hS hL => lv_dup2_11 hx hb hd (Nat.eq_of_beq_eq_true hq.1) (Nat.eq_of_beq_eq_true hq.2) (kk H locs ls hP hS hL)
      · cases hs
    · obtain ⟨hd, rfl⟩ := hd2 (Nat.succ_ne_zero _); unfold ev_icm at hs; split at hs
      · rename_i cnd off _ y x r
        simp only [ev_okc, decide_eq_true_eq] at hcc
        have := go hs; subst this
        intro H locs ls hP hS hL
        have kk := kk H locs ls hP hS hL
        cases cnd
        · exact lv_icmp_eq hx hb hd hcc (fun q => by rw [show ev_cmp .eq x y = true from decide_eq_true q] at kk; exact kk) (fun q => by rw [show ev_cmp .eq x y = false from decide_eq_false q] at kk; exact kk)
        · exact lv_icmp_ne hx hb hd hcc (fun q => by rw [show ev_cmp .ne x y = true from decide_eq_true q] at kk; exact kk) (fun q => by rw [show ev_cmp .ne x y = false from decide_eq_false (fun z => z q)] at kk; exact kk)
        · exact lv_icmp_lt hx hb hd hcc (fun q => by rw [show ev_cmp .lt x y = true from decide_eq_true q] at kk; exact kk) (fun q => by rw [show ev_cmp .lt x y = false from decide_eq_false q] at kk; exact kk)
        · exact lv_icmp_ge hx hb hd hcc (fun q => by rw [show ev_cmp .ge x y = true from decide_eq_true q] at kk; exact kk) (fun q => by rw [show ev_cmp .ge x y = false from decide_eq_false q] at kk; exact kk)
        · exact lv_icmp_gt hx hb hd hcc (fun q => by rw [show ev_cmp .gt x y = true from decide_eq_true q] at kk; exact kk) (fun q => by rw [show ev_cmp .gt x y = false from decide_eq_false q] at kk; exact kk)
        · exact lv_icmp_le hx hb hd hcc (fun q => by rw [show ev_cmp .le x y = true from decide_eq_true q] at kk; exact kk) (fun q => by rw [show ev_cmp .le x y = false from decide_eq_false q] at kk; exact kk)
      · cases hs
    · obtain ⟨hd, rfl⟩ := hd2 (Nat.succ_ne_zero _); unfold ev_ifc at hs; split at hs
      · rename_i cnd off _ x r
        simp only [ev_okc, decide_eq_true_eq] at hcc
        have := go hs; subst this
        intro H locs ls hP hS hL
        have kk := kk H locs ls hP hS hL
        cases cnd
        · exact lv_if_eq hx hb hd hcc (fun q => by rw [show ev_cmp .eq x 0 = true from decide_eq_true q] at kk; exact kk) (fun q => by rw [show ev_cmp .eq x 0 = false from decide_eq_false q] at kk; exact kk)
        · exact lv_if_ne hx hb hd hcc (fun q => by rw [show ev_cmp .ne x 0 = true from decide_eq_true q] at kk; exact kk) (fun q => by rw [show ev_cmp .ne x 0 = false from decide_eq_false (fun z => z q)] at kk; exact kk)
        · exact lv_if_lt hx hb hd hcc (fun q => by rw [show ev_cmp .lt x 0 = true from decide_eq_true q] at kk; exact kk) (fun q => by rw [show ev_cmp .lt x 0 = false from decide_eq_false q] at kk; exact kk)
        · exact lv_if_ge hx hb hd hcc (fun q => by rw [show ev_cmp .ge x 0 = true from decide_eq_true q] at kk; exact kk) (fun q => by rw [show ev_cmp .ge x 0 = false from decide_eq_false q] at kk; exact kk)
        · exact lv_if_gt hx hb hd hcc (fun q => by rw [show ev_cmp .gt x 0 = true from decide_eq_true q] at kk; exact kk) (fun q => by rw [show ev_cmp .gt x 0 = false from decide_eq_false q] at kk; exact kk)
        · exact lv_if_le hx hb hd hcc (fun q => by rw [show ev_cmp .le x 0 = true from decide_eq_true q] at kk; exact kk) (fun q => by rw [show ev_cmp .le x 0 = false from decide_eq_false q] at kk; exact kk)
      · cases hs
    · obtain ⟨hd, rfl⟩ := hd2 (Nat.succ_ne_zero _); simp only [ev_okc, decide_eq_true_eq] at hcc; unfold ev_ifn at hs; split at hs
      · have := go hs; subst this; exact fun H locs ls hP hS hL => lv_ifnullN hx hb hd hcc (kk H locs ls hP hS hL)
      · have := go hs; subst this; exact fun H locs ls hP hS hL => lv_ifnull hx hb hd (kk H locs ls hP hS hL)
      · cases hs
    · obtain ⟨hd, rfl⟩ := hd2 (Nat.succ_ne_zero _); simp only [ev_okc, decide_eq_true_eq] at hcc; unfold ev_ifn at hs; split at hs
      · have := go hs; subst this; exact fun H locs ls hP hS hL => lv_ifnonnullN hx hb hd (kk H locs ls hP hS hL)
      · have := go hs; subst this; exact fun H locs ls hP hS hL => lv_ifnonnull hx hb hd hcc (kk H locs ls hP hS hL)
      · cases hs
    · obtain ⟨hd, rfl⟩ := hd2 (Nat.succ_ne_zero _); simp only [ev_okc, decide_eq_true_eq] at hcc; have := go hs; subst this; exact fun H locs ls hP hS hL => lv_goto hx hb hd hcc (kk H locs ls hP hS hL)
    · unfold ev_tss at hs
      split at hs
      · simp only [ev_okc, Bool.and_eq_true, decide_eq_true_eq] at hcc
        have := go hs; subst this; exact ev_s_tsw X hd0 hcc.1 hcc.2.1 hcc.2.2 kk
      · cases hs
    · obtain ⟨hd, hn⟩ := hd2 (Nat.succ_ne_zero _); exact ev_s_get X hd hn hW hs kk
    · obtain ⟨hd, hn⟩ := hd2 (Nat.succ_ne_zero _); exact ev_s_put X hd hn hW hs kk
    · obtain ⟨hd, rfl⟩ := hd2 (Nat.succ_ne_zero _); have := go hs; subst this; obtain ⟨q, hq, hw⟩ := hW; exact fun H locs ls hP hS hL => va_gets hx hb (hK.2.1 _ q hq) hS hown (hts _ hw) (fun _ h9 => h9) hd (kk H locs ls hP hS hL)
    · obtain ⟨hd, hn⟩ := hd2 (Nat.succ_ne_zero _); exact ev_s_iald X hd hn hs kk
    · obtain ⟨hd, hn⟩ := hd2 (Nat.succ_ne_zero _); exact ev_s_iast X hd hn hs kk
    · obtain ⟨hd, hn⟩ := hd2 (Nat.succ_ne_zero _); exact ev_s_lald X hd hn hs kk
    · obtain ⟨hd, hn⟩ := hd2 (Nat.succ_ne_zero _); exact ev_s_last X hd hn hs kk
    · obtain ⟨hd, hn⟩ := hd2 (Nat.succ_ne_zero _); exact ev_s_aald X hd hn hs kk
    · obtain ⟨hd, hn⟩ := hd2 (Nat.succ_ne_zero _); exact ev_s_aast X hd hn hs kk
    · obtain ⟨hd, hn⟩ := hd2 (Nat.succ_ne_zero _); exact ev_s_alen X hd hn hs kk
    · obtain ⟨hd, hn⟩ := hd2 (Nat.succ_ne_zero _); exact ev_s_newa (ty := .int) (o := fun n => .inr (.inl (n, fun _ => 0))) X hd hn hc hs0 hcap rfl hGl.2.2.2.2.2.1 (by decide) (fun a n H q => q) hs kk
    · obtain ⟨hd, hn⟩ := hd2 (Nat.succ_ne_zero _); exact ev_s_newa (ty := .long) (o := fun n => .inr (.inr (.inl (n, fun _ => 0)))) X hd hn hc hs0 hcap rfl hGl.2.2.2.2.2.2 (by decide) (fun a n H q => q) hs kk
    · obtain ⟨hd, hn⟩ := hd2 (Nat.succ_ne_zero _); exact ev_s_anew X hd hn hc hs0 hcap hW hs kk
    · obtain ⟨hd, hn⟩ := hd2 (Nat.succ_ne_zero _); exact ev_s_new X hd hn hc hs0 hcap hW hs kk
    · obtain ⟨hd, hn⟩ := hd2 (Nat.succ_ne_zero _)
      dsimp only [ev_okW] at hW
      split at hs
      · rename_i h1001
        rw [if_pos h1001] at hW
        exact ev_s_cpy X hGl hd hn hW hs kk
      · unfold ev_callS at hs
        obtain ⟨-, hs⟩ := ev_cond (y := some (Sum.inl cf')) hs
        cases hs
    · obtain ⟨hd, rfl⟩ := hd2 (Nat.succ_ne_zero _)
      dsimp only [ev_okW] at hW
      split at hs
      · rename_i h1000
        rw [if_pos h1000] at hW
        unfold ev_oin at hs
        split at hs
        · obtain ⟨hq, hs⟩ := ev_cond (y := some (Sum.inl cf')) hs
          have hsum := Nat.le_of_ble_eq_true hq
          unfold ev_sum at hsum
          have := go hs; subst this
          exact fun H locs ls hP hS hL => W.objInit hx hb hown (hts _ hW) (hts _ hGl.2.2.2.1) (hts _ hGl.2.2.2.2.1) rfl (by rw [hml]; exact hL.2.1) rfl hd (by omega) (by show 2 * 0 + _ + 12 ≤ _; omega) (kk H locs ls hP hS hL)
        · cases hs
      · unfold ev_callI at hs
        split at hs
        · obtain ⟨-, hs⟩ := ev_cond (y := some (Sum.inl cf')) hs
          cases hs
        · cases hs
    · unfold ev_callV at hs
      split at hs
      · split at hs
        · obtain ⟨-, hs⟩ := ev_cond (y := some (Sum.inl cf')) hs
          cases hs
        · cases hs
      · cases hs
    · unfold ev_ret at hs
      split at hs
      · obtain ⟨-, hs⟩ := ev_cond (y := some (Sum.inl cf')) hs
        cases hs
      · cases hs
    · unfold ev_ret at hs
      split at hs
      · obtain ⟨-, hs⟩ := ev_cond (y := some (Sum.inl cf')) hs
        cases hs
      · cases hs
    · unfold ev_ret at hs
      split at hs
      · obtain ⟨-, hs⟩ := ev_cond (y := some (Sum.inl cf')) hs
        cases hs
      · cases hs
    · unfold ev_rtv at hs; split at hs <;> cases hs
    · cases hs
  · cases hs
end EVV
end
section
/-! Calls and ends; the evaluator's runs are contracts of the machine's methods. -/
def ev_ws (T : e_M) : List Cond := .code T.1.2.1 T.1.2.2.1 T.1.2.2.2.1 T.1.2.2.2.2 :: ev_GW
def ev_rm (d mc ms : Nat) : Room := { frames := d, cells := mc, slots := ms, locals := 40 * d }
def ev_Pc (D : va_G) (bs : Nat) (sa : Nat → Nat) (as : List Value) (h : e_H) : Array Value → State → Prop := va_Pc as (fun U => bs ≤ U.heap.size ∧ ev_P D U h U.heap ∧ ev_K D bs sa U)
def ev_Qc (D : va_G) (bs : Nat) (v : Option Value) (h' : e_H) : Array Value → State → Outcome → State → Prop := fun _ st o t => o = .returned v ∧ ev_P D t h' t.heap ∧ va_F (fun q => bs ≤ q) st t
def ev_Met (l : Launch) (D : va_G) (bs : Nat) (sa : Nat → Nat) (d : Nat) (T : e_M) (as : List Value) (h : e_H) (v : Option Value) (h' : e_H) : Prop :=
  Met l T.1.2.1 (ev_ws T) (ev_rm d (ev_cn h' - ev_cn h) (ev_sn h' - ev_sn h)) (ev_Pc D bs sa as h) (ev_Qc D bs v h') (ev_cn h' - ev_cn h) (ev_sn h' - ev_sn h) (fun q => bs ≤ q)
theorem ev_good {T : e_M} (h : Cond.code T.1.2.1 T.1.2.2.1 T.1.2.2.2.1 T.1.2.2.2.2 ∈ ev_GW) : GoodIn ev_GW (ev_ws T) := by
  intro w hw
  have hm : w ∈ ev_GW := by
    rcases List.mem_cons.mp hw with rfl | q
    · exact h
    · exact q
  exact ⟨hm, good_of_word (List.mem_filter.mp hm).2⟩
theorem ev_blind {D : va_G} {bs : Nat} {sa : Nat → Nat} {as : List Value} {h : e_H} : FrameBlind (ev_Pc D bs sa as h) := by
  intro a U g mk q
  obtain ⟨q0, q1, q2, q3⟩ := q
  exact ⟨q0, q1, ev_P.moved (u := U) (U := U.calling g mk a) (Vm.Alike.refl U.vm) q2, ev_K.blind (U := U) (V := U.calling g mk a) rfl rfl q3⟩
section EVC
variable {p : Program} {l : Launch} {e : Env} {R : Room} {s : State} {m : MethodId} {args : Array Value} {below : List Frame} {meth : Method} {c : Code} {D : va_G} {bs : Nat} {sa : Nat → Nat} {T : e_M} {d c0 s0 : Nat} {Q : State → Prop} {tb : Nat → Option e_M}
variable {pc nx x1 x2 : Nat} {v : Value} {ts : List Nat} {lo : e_L} {sk : List Value} {h h' : e_H}
theorem ev_pre {H : Heap} {locs : List Loc} {as : List Value} (X : ev_X p R s m args meth c D bs sa T d) (hP : ev_P D s h H) (hS : va_S (fun q => bs ≤ q) s.heap H locs) : ∀ U : State, U.heap = H → s.WarmedH U.vm → ev_Pc D bs sa as h as.toArray U := by
  obtain ⟨-, -, -, -, -, -, -, -, hK, -, -, hbs⟩ := X
  intro U hU hW
  exact ⟨rfl, by rw [hU]; exact Nat.le_trans hbs hS.1, by rw [hU]; exact ev_P.moved hW.alike hP, ev_K.warm hW hS hU hK⟩
theorem ev_back {H : Heap} {locs : List Loc} {ls : Array Slot} {r : List Value} {w : Option Value} {a9 : Array Value} (hc : c0 ≤ ev_cn h) (hs0 : s0 ≤ ev_sn h) (hmc : ev_cn h ≤ ev_cn h') (hms : ev_sn h ≤ ev_sn h')
    (hr : va_Run p l e R s m args below meth c H locs (ev_cn h - c0) (ev_sn h - s0) (ev_cn h' - ev_cn h) (ev_sn h' - ev_sn h) (F0 m pc ls sk) r (ev_Qc D bs w h' a9) (fun q => bs ≤ q)) (hS : va_S (fun q => bs ≤ q) s.heap H locs) (hL : ev_LR ls T.1.2.2.2.1 lo)
    (kk : ev_G p l e R s m args below meth c D bs T c0 s0 Q (pc + 3, lo, w.toList ++ r, h')) : W p l e R s m args below meth c H locs (ev_cn h - c0) (ev_sn h - s0) Q (F0 m pc ls sk) := by
  intro T0 hT X0
  obtain ⟨v1, st₀, t, T', L, h0, X', hL', e1, e2, ⟨hv, hP', hz, hk⟩, st⟩ := hr T0 hT X0
  cases hv
  rw [h0] at hz hk
  have hal : s.vm.Alike t.vm := by rw [← e2]; exact X'.warmed.alike
  have ec : ev_cn h - c0 + (ev_cn h' - ev_cn h) = ev_cn h' - c0 := by omega
  have es : ev_sn h - s0 + (ev_sn h' - ev_sn h) = ev_sn h' - s0 := by omega
  rw [ec, es] at X'
  obtain ⟨t2, a1, b1⟩ := kk T'.heap (locs ++ L) ls (by rw [e1]; exact ev_P.moved hal.symm hP')
    ⟨Nat.le_trans hS.1 (by rw [e1]; exact hz), fun q h1 h2 => by rw [e1, hk q (Nat.lt_of_lt_of_le h1 hS.1) h2]; exact hS.2.1 q h1 h2, fun q hq => by
      rcases List.mem_append.mp hq with h | h
      · exact hS.2.2 q h
      · exact hL' q h⟩ hL T' rfl X'
  exact ⟨t2, st t2 a1, b1⟩
theorem nc_go {nx : Nat} {x : Option Value ⊕ (Nat × List Value × Nat × e_L × List Value)} : ev_go nx lo sk h ≠ some (.inr x) := by
  intro q
  have q : (some (Sum.inl (nx, lo, sk, h)) : Option e_R) = some (Sum.inr x) := q
  cases q
theorem ev_inr {rt : Option FieldType} {i : Instr} {x : Option Value ⊕ (Nat × List Value × Nat × e_L × List Value)} (hs : ev_ins bs sa rt nx x1 x2 v ts lo sk h i = some (.inr x)) :
    (i = .ireturn ∧ ev_ret 0 rt sk = some (.inr x)) ∨ (i = .lreturn ∧ ev_ret 1 rt sk = some (.inr x)) ∨ (i = .areturn ∧ ev_ret 2 rt sk = some (.inr x)) ∨ (i = .return_ ∧ ev_rtv rt sk = some (.inr x)) ∨
    (∃ idx, i = .invokestatic idx ∧ x1 ≠ 1001 ∧ ev_callS x1 x2 nx lo sk = some (.inr x)) ∨ (∃ idx, i = .invokespecial idx ∧ x1 ≠ 1000 ∧ ev_callI x1 x2 nx lo sk = some (.inr x)) ∨ (∃ idx, i = .invokevirtual idx ∧ ev_callV x1 x2 nx ts lo sk h = some (.inr x)) := by
  have nc : ∀ {b : Bool} {nx : Nat} {lo : e_L} {sk : List Value} {h : e_H}, cond b (ev_go nx lo sk h) none ≠ some (.inr x) := fun q => nc_go (ev_cond (y := some (Sum.inr x)) q).2
  unfold ev_ins at hs
  split at hs
  all_goals first
    | exact absurd hs nc_go
    | (exfalso; unfold ev_load at hs; split at hs <;> first | exact nc_go hs | cases hs)
    | (exfalso; unfold ev_store at hs; split at hs <;> first | exact nc hs | cases hs)
    | (exfalso; unfold ev_inc at hs; split at hs <;> first | exact nc hs | cases hs)
    | (exfalso; unfold ev_storeL at hs; split at hs <;> first | exact nc hs | cases hs)
    | (exfalso; unfold ev_bin at hs; split at hs <;> first | exact nc_go hs | cases hs)
    | (exfalso; unfold ev_un at hs; split at hs <;> first | exact nc_go hs | cases hs)
    | (exfalso; unfold ev_binL at hs; split at hs <;> first | exact nc_go hs | cases hs)
    | (exfalso; unfold ev_shL at hs; split at hs <;> first | exact nc_go hs | cases hs)
    | (exfalso; unfold ev_l2i at hs; split at hs <;> first | exact nc_go hs | cases hs)
    | (exfalso; unfold ev_dup at hs; split at hs <;> first | exact nc hs | cases hs)
    | (exfalso; unfold ev_dup2 at hs; split at hs <;> first | exact nc hs | cases hs)
    | (exfalso; unfold ev_icm at hs; split at hs <;> first | exact nc_go hs | cases hs)
    | (exfalso; unfold ev_ifc at hs; split at hs <;> first | exact nc_go hs | cases hs)
    | (exfalso; unfold ev_ifn at hs; split at hs <;> first | exact nc_go hs | cases hs)
    | (exfalso; unfold ev_tss at hs; split at hs <;> first | exact nc_go hs | cases hs)
    | (exfalso; unfold ev_alen at hs; split at hs <;> first | cases hs | (split at hs <;> first | exact nc_go hs | cases hs))
    | (exfalso; unfold ev_iald at hs; split at hs <;> first | cases hs | (split at hs <;> first | exact nc hs | cases hs))
    | (exfalso; unfold ev_iast at hs; split at hs <;> first | cases hs | (split at hs <;> first | exact nc hs | cases hs))
    | (exfalso; unfold ev_lald at hs; split at hs <;> first | cases hs | (split at hs <;> first | exact nc hs | cases hs))
    | (exfalso; unfold ev_last at hs; split at hs <;> first | cases hs | (split at hs <;> first | exact nc hs | cases hs))
    | (exfalso; unfold ev_aald at hs; split at hs <;> first | cases hs | (split at hs <;> first | exact nc hs | cases hs))
    | (exfalso; unfold ev_aast at hs; split at hs <;> first | cases hs | (split at hs <;> first | exact nc hs | cases hs))
    | (exfalso; unfold ev_put at hs; split at hs <;> first | cases hs | (split at hs <;> first | exact nc hs | cases hs))
    | (exfalso; unfold ev_get at hs; split at hs <;> first | cases hs | (split at hs <;> first | cases hs | (split at hs <;> first | exact nc_go hs | cases hs)))
    | (exfalso; unfold ev_nob at hs; split at hs <;> first | exact nc_go hs | cases hs)
    | (exfalso; unfold ev_newa at hs; split at hs <;> first | cases hs | (have hs := (ev_cond (y := some (Sum.inr x)) hs).2; split at hs <;> first | exact nc_go hs | cases hs))
    | (exfalso; unfold ev_div at hs; split at hs <;> first | cases hs | (cases hq : decide (_ = (0 : Int32)) <;> rw [hq] at hs <;> first | exact nc_go hs | cases hs))
    | (exact Or.inl ⟨rfl, hs⟩)
    | (exact Or.inr (Or.inl ⟨rfl, hs⟩))
    | (exact Or.inr (Or.inr (Or.inl ⟨rfl, hs⟩)))
    | (exact Or.inr (Or.inr (Or.inr (Or.inl ⟨rfl, hs⟩))))
    | (exact Or.inr (Or.inr (Or.inr (Or.inr (Or.inr (Or.inr ⟨_, rfl, hs⟩))))))
    | (split at hs <;> first
        | (exfalso; unfold ev_cpy at hs; split at hs <;> first | cases hs | (split at hs <;> first | exact nc hs | cases hs))
        | (exfalso; unfold ev_oin at hs; split at hs <;> first | exact nc hs | cases hs)
        | exact Or.inr (Or.inr (Or.inr (Or.inr (Or.inl ⟨_, rfl, by assumption, hs⟩))))
        | exact Or.inr (Or.inr (Or.inr (Or.inr (Or.inr (Or.inl ⟨_, rfl, by assumption, hs⟩))))))
    | cases hs
/-- a call, by the callee's contract -/
theorem ev_call {cf : e_C} {y : Nat} {as r : List Value} {w : Option Value} (X : ev_X p R s m args meth c D bs sa T d) (hok : ev_ok tb T) (hs : ev_stp bs sa T cf = some (.inr (.inr (y, as, nx, lo, r)))) (hc : c0 ≤ ev_cn cf.2.2.2) (hs0 : s0 ≤ ev_sn cf.2.2.2) (hmc : ev_cn cf.2.2.2 ≤ ev_cn h') (hms : ev_sn cf.2.2.2 ≤ ev_sn h') (hcap : ev_cn h' - c0 ≤ R.cells ∧ ev_sn h' - s0 ≤ R.slots)
    (hM : ∀ T', tb y = some T' → ev_Met l D bs sa d T' as cf.2.2.2 w h') (kk : ev_G p l e R s m args below meth c D bs T c0 s0 Q (nx, lo, w.toList ++ r, h')) : ev_G p l e R s m args below meth c D bs T c0 s0 Q cf := by
  obtain ⟨pc, lo', sk, h⟩ := cf
  unfold ev_stp at hs
  dsimp only at hs hc hs0 hmc hms hM
  split at hs
  · rename_i i nx' x1 x2 v ts hf
    obtain ⟨hB, hW⟩ := hok.2.2 _ (ev_fnd_mem _ _ _ hf)
    dsimp only at hB hW
    simp only [ev_okB, Bool.and_eq_true, Bool.or_eq_true, decide_eq_true_eq] at hB
    obtain ⟨hd0, hlt, hln, hcc⟩ := hB
    have hd2 : ev_ln i ≠ 0 → decode T.1.2.2.1 pc = .ok (i, ev_ln i) ∧ nx' = pc + ev_ln i := by
      intro hne
      rcases hln with q | q
      · exact absurd q hne
      · refine ⟨?_, q⟩
        rw [hd0, q]
        congr 2
        omega
    have X' := X
    obtain ⟨hx, hb, hml, hret, hown, hnm, hlk, hts, hK, hRf, hRl, hbs⟩ := X'
    have hcr : ∀ T' : e_M, T'.1.2.2.2.1 ≤ 21 → (ev_rm d (ev_cn h' - ev_cn h) (ev_sn h' - ev_sn h)).frames + 1 ≤ R.frames ∧ 8 + (T'.1.2.2.2.1 + 11) + (ev_rm d (ev_cn h' - ev_cn h) (ev_sn h' - ev_sn h)).locals ≤ R.locals := by
      intro T' hT'
      refine ⟨hRf, ?_⟩
      show 8 + (T'.1.2.2.2.1 + 11) + 40 * d ≤ R.locals
      omega
    rcases ev_inr hs with ⟨-, q⟩ | ⟨-, q⟩ | ⟨-, q⟩ | ⟨-, q⟩ | ⟨idx, rfl, h1, hs⟩ | ⟨idx, rfl, h1, hs⟩ | ⟨idx, rfl, hv9⟩
    · exfalso; unfold ev_ret at q; split at q
      · have q := (ev_cond (y := some (Sum.inr (Sum.inr (y, as, nx, lo, r)))) q).2; cases q
      · cases q
    · exfalso; unfold ev_ret at q; split at q
      · have q := (ev_cond (y := some (Sum.inr (Sum.inr (y, as, nx, lo, r)))) q).2; cases q
      · cases q
    · exfalso; unfold ev_ret at q; split at q
      · have q := (ev_cond (y := some (Sum.inr (Sum.inr (y, as, nx, lo, r)))) q).2; cases q
      · cases q
    · exfalso; unfold ev_rtv at q; split at q <;> cases q
    · obtain ⟨hd, rfl⟩ := hd2 (Nat.succ_ne_zero _)
      dsimp only [ev_okW] at hW
      rw [if_neg h1] at hW
      obtain ⟨T', ht', ⟨hl, hini, hcode, hpl, h21⟩, hst⟩ := hW
      unfold ev_callS at hs
      obtain ⟨hq, hs⟩ := ev_cond (y := some (Sum.inr (Sum.inr (y, as, nx, lo, r)))) hs
      rw [Bool.and_eq_true] at hq
      have hlen := Nat.le_of_ble_eq_true hq.1
      have hsum := Nat.le_of_ble_eq_true hq.2
      unfold ev_sum at hsum
      simp only [Option.some.injEq, Sum.inr.injEq, Prod.mk.injEq] at hs
      obtain ⟨rfl, rfl, rfl, rfl, rfl⟩ := hs
      intro H locs ls hP hS hL
      have hsk : sk = (List.take x2 sk).reverse.reverse ++ List.drop x2 sk := by rw [List.reverse_reverse, List.take_append_drop]
      have hn : (List.take x2 sk).reverse.length = x2 := by simp; omega
      have hpre : PreS s H (ev_Pc D bs sa (List.take x2 sk).reverse h) (List.take x2 sk).reverse := ⟨ev_blind, ev_pre X hP hS⟩
      have hfit : ev_cn h - c0 + (ev_cn h' - ev_cn h) ≤ R.cells ∧ ev_sn h - s0 + (ev_sn h' - ev_sn h) ≤ R.slots := by omega
      rcases hl with hl | ⟨host, hl⟩
      · exact ev_back hc hs0 hmc hms (va_runS (g := F0 m pc ls sk) ⟨hx, hb, hml, hown, hts⟩ (hM T' ht') ⟨callB_of x2 hts (ev_good hcode) rfl rfl rfl (hts _ hini) (hts _ hl) hpl (hcr T' h21), hts _ hst⟩ hpre rfl hn hL.2.1 hsk (by show 2 * 0 + _ ≤ 8; omega) hd hfit) hS hL kk
      · exact ev_back hc hs0 hmc hms (va_runSN (g := F0 m pc ls sk) ⟨hx, hb, hml, hown, hts⟩ (hM T' ht') ⟨va_cnB x2 hts (ev_good hcode) rfl rfl rfl (hK.2.2.1 _ hl) (hts _ hini) hpl (hcr T' h21), hts _ hst, trivial⟩ hpre rfl hn hL.2.1 hsk (by show 2 * 0 + _ ≤ 8; omega) hd hfit) hS hL kk
    · obtain ⟨hd, rfl⟩ := hd2 (Nat.succ_ne_zero _)
      dsimp only [ev_okW] at hW
      rw [if_neg h1] at hW
      obtain ⟨T', ht', ⟨hl, hini, hcode, hpl, h21⟩, hnam, hins, hrt⟩ := hW
      unfold ev_callI at hs
      split at hs
      · rename_i b r' hdr
        obtain ⟨hq, hs⟩ := ev_cond (y := some (Sum.inr (Sum.inr (y, as, nx, lo, r)))) hs
        rw [Bool.and_eq_true] at hq
        have hlen := Nat.le_of_ble_eq_true hq.1
        have hsum := Nat.le_of_ble_eq_true hq.2
        unfold ev_sum at hsum
        simp only [Option.some.injEq, Sum.inr.injEq, Prod.mk.injEq] at hs
        obtain ⟨rfl, rfl, rfl, rfl, rfl⟩ := hs
        intro H locs ls hP hS hL
        have hsk : sk = (List.take x2 sk).reverse.reverse ++ .ref b :: r' := by rw [List.reverse_reverse, ← hdr, List.take_append_drop]
        have hn : (List.take x2 sk).reverse.length = x2 := by simp; omega
        have hpre : PreS s H (ev_Pc D bs sa (.ref b :: (List.take x2 sk).reverse) h) (.ref b :: (List.take x2 sk).reverse) := ⟨ev_blind, ev_pre X hP hS⟩
        have hfit : ev_cn h - c0 + (ev_cn h' - ev_cn h) ≤ R.cells ∧ ev_sn h - s0 + (ev_sn h' - ev_sn h) ≤ R.slots := by omega
        have hws : ev_ws T' = Cond.code T'.1.2.1 T'.1.2.2.1 T'.1.2.2.2.1 none :: ev_GW := by unfold ev_ws; rw [hrt]
        rcases hl with hl | ⟨host, hl⟩
        · exact ev_back hc hs0 hmc hms (va_runI (g := F0 m pc ls sk) ⟨hx, hb, hml, hown, hts⟩ (hM T' ht') (cwI x2 hts (ev_good hcode) hws rfl rfl (hts _ hini) (hts _ hl) (hts _ hins) hnam hpl (hcr T' h21)) hpre rfl hn hL.2.1 hsk (by show 2 * 0 + _ ≤ 8; omega) hd hfit) hS hL kk
        · exact ev_back hc hs0 hmc hms (va_runIN (g := F0 m pc ls sk) ⟨hx, hb, hml, hown, hts⟩ (hM T' ht') ⟨va_cnB x2 hts (ev_good hcode) hws rfl rfl (hK.2.2.1 _ hl) (hts _ hini) hpl (hcr T' h21), hnam, hts _ hins⟩ hpre rfl hn hL.2.1 hsk (by show 2 * 0 + _ ≤ 8; omega) hd hfit) hS hL kk
      · cases hs
    · obtain ⟨hd, rfl⟩ := hd2 (Nat.succ_ne_zero _)
      obtain ⟨T', ci, rr, ht', rfl, hrr, hcls, ⟨hl, hini, hcode, hpl, h21⟩, hins, hsel⟩ := hW
      have hs := hv9
      unfold ev_callV at hs
      split at hs
      · rename_i b r' ci' hdr hci
        cases hci
        split at hs
        · rename_i fs hfs
          obtain ⟨hq, hs⟩ := ev_cond (y := some (Sum.inr (Sum.inr (y, as, nx, lo, r)))) hs
          rw [Bool.and_eq_true] at hq
          have hlen := Nat.le_of_ble_eq_true hq.1
          have hsum := Nat.le_of_ble_eq_true hq.2
          unfold ev_sum at hsum
          simp only [Option.some.injEq, Sum.inr.injEq, Prod.mk.injEq] at hs
          obtain ⟨rfl, rfl, rfl, rfl, rfl⟩ := hs
          intro H locs ls hP hS hL
          have hsk : sk = (List.take x2 sk).reverse.reverse ++ .ref b :: r' := by rw [List.reverse_reverse, ← hdr, List.take_append_drop]
          have hn : (List.take x2 sk).reverse.length = x2 := by simp; omega
          have hrecv : ∃ cellB : Cell, H[b]? = some cellB ∧ cellB.vm.isStatics = false ∧ s.vm.findClass rr.1 = some cellB.cls := by
            obtain ⟨r2, k1, k2, cv, k3, k4, k5, k6⟩ := hP.1 b _ (ev_obj_spec hfs)
            exact ⟨cv, k3, by rw [k5]; rfl, by rw [k4]; exact (hK.1.1 ci _ hrr).2.1⟩
          have hpre : PreV s H rr.1 b (ev_Pc D bs sa (.ref b :: (List.take x2 sk).reverse) h) (List.take x2 sk).reverse := ⟨ev_blind, hrecv, ev_pre X hP hS⟩
          have hfit : ev_cn h - c0 + (ev_cn h' - ev_cn h) ≤ R.cells ∧ ev_sn h - s0 + (ev_sn h' - ev_sn h) ≤ R.slots := by omega
          rcases hl with hl | ⟨host, hl⟩
          · exact ev_back hc hs0 hmc hms (va_runV (g := F0 m pc ls sk) ⟨hx, hb, hml, hown, hts⟩ (hM T' ht') ⟨callB_of x2 hts (ev_good hcode) rfl rfl rfl (hts _ hini) (hts _ hl) hpl (hcr T' h21), hts _ hins, hts _ hsel⟩ hpre rfl hn hL.2.1 hsk (by show 2 * 0 + _ ≤ 8; omega) hd hfit) hS hL kk
          · exact ev_back hc hs0 hmc hms (va_runVN (g := F0 m pc ls sk) ⟨hx, hb, hml, hown, hts⟩ (hM T' ht') ⟨va_cnB x2 hts (ev_good hcode) rfl rfl rfl (hK.2.2.1 _ hl) (hts _ hini) hpl (hcr T' h21), hts _ hins, hts _ hsel⟩ hpre rfl hn hL.2.1 hsk (by show 2 * 0 + _ ≤ 8; omega) hd hfit) hS hL kk
        · cases hs
      · cases hs
  · cases hs
end EVC
end
section
section EVR
variable {p : Program} {l : Launch} {e : Env} {R : Room} {s : State} {m : MethodId} {args : Array Value} {below : List Frame} {meth : Method} {c : Code} {D : va_G} {bs : Nat} {sa : Nat → Nat} {T : e_M} {d c0 s0 : Nat} {Q : State → Prop} {tb : Nat → Option e_M}
variable {pc nx x1 x2 : Nat} {v : Value} {ts : List Nat} {lo : e_L} {sk : List Value} {h h' : e_H} {cf' : e_C}
/-- the counts never fall -/
def ev_le (h h' : e_H) : Prop := ev_cn h ≤ ev_cn h' ∧ ev_sn h ≤ ev_sn h'
theorem ev_le.rf : ev_le h h := ⟨Nat.le_refl _, Nat.le_refl _⟩
theorem ev_le.tr {h1 h2 h3 : e_H} (a : ev_le h1 h2) (b : ev_le h2 h3) : ev_le h1 h3 := ⟨Nat.le_trans a.1 b.1, Nat.le_trans a.2 b.2⟩
theorem ev_le.up {a : Nat} {o : e_O} : ev_le h (ev_up h a o) := ⟨Nat.le_refl _, Nat.le_refl _⟩
theorem ev_inl_le {rt : Option FieldType} {i : Instr} (hs : ev_ins bs sa rt nx x1 x2 v ts lo sk h i = some (.inl cf')) : ev_le h cf'.2.2.2 := by
  have g0 : ∀ {nx : Nat} {lo : e_L} {sk : List Value} {h1 : e_H}, ev_go nx lo sk h1 = some (.inl cf') → ev_le h h1 → ev_le h cf'.2.2.2 := by
    intro nx lo sk h1 q hq
    have q : (some (Sum.inl (nx, lo, sk, h1)) : Option e_R) = some (Sum.inl cf') := q
    cases q; exact hq
  have gc : ∀ {b : Bool} {nx : Nat} {lo : e_L} {sk : List Value} {h1 : e_H}, cond b (ev_go nx lo sk h1) none = some (.inl cf') → ev_le h h1 → ev_le h cf'.2.2.2 := fun q hq => g0 (ev_cond (y := some (Sum.inl cf')) q).2 hq
  have gn : ∀ {o : e_O} {n z : Nat} {h1 : e_H}, ev_new h o n = some (z, h1) → ev_le h h1 := fun q => ⟨by rw [(ev_cnew q).1]; omega, by rw [(ev_cnew q).2]; omega⟩
  unfold ev_ins at hs
  split at hs
  all_goals first
    | exact g0 hs ev_le.rf
    | (unfold ev_load at hs; split at hs <;> first | exact g0 hs ev_le.rf | cases hs)
    | (unfold ev_store at hs; split at hs <;> first | exact gc hs ev_le.rf | cases hs)
    | (unfold ev_inc at hs; split at hs <;> first | exact gc hs ev_le.rf | cases hs)
    | (unfold ev_storeL at hs; split at hs <;> first | exact gc hs ev_le.rf | cases hs)
    | (unfold ev_bin at hs; split at hs <;> first | exact g0 hs ev_le.rf | cases hs)
    | (unfold ev_un at hs; split at hs <;> first | exact g0 hs ev_le.rf | cases hs)
    | (unfold ev_binL at hs; split at hs <;> first | exact g0 hs ev_le.rf | cases hs)
    | (unfold ev_shL at hs; split at hs <;> first | exact g0 hs ev_le.rf | cases hs)
    | (unfold ev_l2i at hs; split at hs <;> first | exact g0 hs ev_le.rf | cases hs)
    | (unfold ev_dup at hs; split at hs <;> first | exact gc hs ev_le.rf | cases hs)
    | (unfold ev_dup2 at hs; split at hs <;> first | exact gc hs ev_le.rf | cases hs)
    | (unfold ev_icm at hs; split at hs <;> first | exact g0 hs ev_le.rf | cases hs)
    | (unfold ev_ifc at hs; split at hs <;> first | exact g0 hs ev_le.rf | cases hs)
    | (unfold ev_ifn at hs; split at hs <;> first | exact g0 hs ev_le.rf | cases hs)
    | (unfold ev_tss at hs; split at hs <;> first | exact g0 hs ev_le.rf | cases hs)
    | (unfold ev_alen at hs; split at hs <;> first | cases hs | (split at hs <;> first | exact g0 hs ev_le.rf | cases hs))
    | (unfold ev_iald at hs; split at hs <;> first | cases hs | (split at hs <;> first | exact gc hs ev_le.rf | cases hs))
    | (unfold ev_iast at hs; split at hs <;> first | cases hs | (split at hs <;> first | exact gc hs ev_le.up | cases hs))
    | (unfold ev_lald at hs; split at hs <;> first | cases hs | (split at hs <;> first | exact gc hs ev_le.rf | cases hs))
    | (unfold ev_last at hs; split at hs <;> first | cases hs | (split at hs <;> first | exact gc hs ev_le.up | cases hs))
    | (unfold ev_aald at hs; split at hs <;> first | cases hs | (split at hs <;> first | exact gc hs ev_le.rf | cases hs))
    | (unfold ev_aast at hs; split at hs <;> first | cases hs | (split at hs <;> first | exact gc hs ev_le.up | cases hs))
    | (unfold ev_put at hs; split at hs <;> first | cases hs | (split at hs <;> first | exact gc hs ev_le.up | cases hs))
    | (unfold ev_get at hs; split at hs <;> first | cases hs | (split at hs <;> first | cases hs | (split at hs <;> first | exact g0 hs ev_le.rf | cases hs)))
    | (unfold ev_nob at hs; split at hs <;> first | (rename_i hq; exact g0 hs (gn hq)) | cases hs)
    | (unfold ev_newa at hs; split at hs <;> first | cases hs | (have hs := (ev_cond (y := some (Sum.inl cf')) hs).2; split at hs <;> first | (rename_i hq; exact g0 hs (gn hq)) | cases hs))
    | (unfold ev_div at hs; split at hs <;> first | cases hs | (cases hq : decide (_ = (0 : Int32)) <;> rw [hq] at hs <;> first | exact g0 hs ev_le.rf | cases hs))
    | (unfold ev_ret at hs; split at hs <;> first | cases hs | (have hs := (ev_cond (y := some (Sum.inl cf')) hs).2; cases hs))
    | (unfold ev_rtv at hs; split at hs <;> cases hs)
    | (unfold ev_callV at hs; split at hs <;> first | cases hs | (split at hs <;> first | cases hs | (have hs := (ev_cond (y := some (Sum.inl cf')) hs).2; cases hs)))
    | (split at hs <;> first
        | (unfold ev_cpy at hs; split at hs <;> first | cases hs | (split at hs <;> first | exact gc hs ev_le.up | cases hs))
        | (unfold ev_oin at hs; split at hs <;> first | exact gc hs ev_le.rf | cases hs)
        | (unfold ev_callS at hs; have hs := (ev_cond (y := some (Sum.inl cf')) hs).2; cases hs)
        | (unfold ev_callI at hs; split at hs <;> first | cases hs | (have hs := (ev_cond (y := some (Sum.inl cf')) hs).2; cases hs)))
    | cases hs
theorem ev_stp_le {cf : e_C} (hs : ev_stp bs sa T cf = some (.inl cf')) : ev_le cf.2.2.2 cf'.2.2.2 := by
  unfold ev_stp at hs
  split at hs
  · exact ev_inl_le hs
  · cases hs
/-- the heap at an end -/
def ev_eh (x : e_C ⊕ (Option Value × e_H)) : e_H := match x with
  | .inl cf => cf.2.2.2
  | .inr q => q.2
theorem ev_rch_le {K : Nat → List Value → e_H → Option Value → e_H → Prop} {E : e_C ⊕ (Option Value × e_H) → Prop} (hK : ∀ y as h v h', K y as h v h' → ev_le h h') : ∀ (n : Nat) (cf : e_C), ev_rch bs sa K T E n cf → ∃ x, E x ∧ ev_le cf.2.2.2 (ev_eh x) := by
  intro n
  induction n with
  | zero => intro cf h; exact ⟨_, h, ev_le.rf⟩
  | succ n ih =>
    intro cf h
    rcases h with h | h
    · exact ⟨_, h, ev_le.rf⟩
    · split at h
      · rename_i cf' hs
        obtain ⟨x, hx, hl⟩ := ih _ h
        exact ⟨x, hx, (ev_stp_le hs).tr hl⟩
      · exact ⟨_, h, ev_le.rf⟩
      · obtain ⟨v, h', hk, hr⟩ := h
        obtain ⟨x, hx, hl⟩ := ih _ hr
        exact ⟨x, hx, (hK _ _ _ _ _ hk).tr hl⟩
      · exact h.elim
theorem ev_run_le : ∀ (d y : Nat) (as : List Value) (h : e_H) (v : Option Value) (h' : e_H), ev_run tb bs sa d y as h v h' → ev_le h h' := by
  intro d
  induction d with
  | zero => intro y as h v h' q; exact q.elim
  | succ d ih =>
    intro y as h v h' q
    obtain ⟨T, n, -, -, hr⟩ := q
    obtain ⟨x, hx, hl⟩ := ev_rch_le (ih) n _ hr
    subst hx
    exact hl
/-- a run inside a method: the machine comes to where the run comes -/
theorem ev_rch_W {E : e_C ⊕ (Option Value × e_H) → Prop} (X : ev_X p R s m args meth c D bs sa T d) (hGl : ev_glob) (hok : ev_ok tb T) (hM : ∀ y as h v h', ev_run tb bs sa d y as h v h' → ∀ T', tb y = some T' → ev_Met l D bs sa d T' as h v h')
    (hE1 : ∀ cf, E (.inl cf) → ev_G p l e R s m args below meth c D bs T c0 s0 Q cf) (hE2 : ∀ cf v, E (.inr (v, cf.2.2.2)) → ev_stp bs sa T cf = some (.inr (.inl v)) → ev_G p l e R s m args below meth c D bs T c0 s0 Q cf)
    (hcap : ∀ x, E x → ev_cn (ev_eh x) - c0 ≤ R.cells ∧ ev_sn (ev_eh x) - s0 ≤ R.slots) : ∀ (n : Nat) (cf : e_C), c0 ≤ ev_cn cf.2.2.2 → s0 ≤ ev_sn cf.2.2.2 → ev_rch bs sa (ev_run tb bs sa d) T E n cf → ev_G p l e R s m args below meth c D bs T c0 s0 Q cf := by
  intro n
  induction n with
  | zero => intro cf _ _ h; exact hE1 cf h
  | succ n ih =>
    intro cf hc hs0 h
    have h9 := h
    rcases h with h | h
    · exact hE1 cf h
    · split at h
      · rename_i cf' hs
        have hle := ev_stp_le hs
        obtain ⟨x, hx, hl⟩ := ev_rch_le (ev_run_le d) n cf' h
        have hcx := hcap x hx
        have := hle.1; have := hle.2; have := hl.1; have := hl.2
        exact ev_step X hGl hok hs hc hs0 ⟨by omega, by omega⟩ (ih cf' (by omega) (by omega) h)
      · rename_i v hs
        exact hE2 cf v h hs
      · rename_i y as nx lo r hs
        obtain ⟨v, h', hk, hr⟩ := h
        have hle := ev_run_le d _ _ _ _ _ hk
        obtain ⟨x, hx, hl⟩ := ev_rch_le (ev_run_le d) n _ hr
        have hcx := hcap x hx
        have := hle.1; have := hle.2; have := hl.1; have := hl.2
        dsimp only at *
        exact ev_call X hok hs hc hs0 hle.1 hle.2 ⟨by omega, by omega⟩ (hM _ _ _ _ _ hk) (ih _ (by dsimp only; omega) (by dsimp only; omega) hr)
      · exact h.elim
theorem ev_ends {cf : e_C} {w : Option Value} (X : ev_X p R s m args meth c D bs sa T d) (hok : ev_ok tb T) (hs : ev_stp bs sa T cf = some (.inr (.inl w))) :
    ev_G p l e R s m args below meth c D bs T c0 s0 (MQ below (ev_Qc D bs w cf.2.2.2) args s (ev_cn cf.2.2.2 - c0) (ev_sn cf.2.2.2 - s0) (fun q => bs ≤ q)) cf := by
  obtain ⟨pc, lo, sk, h⟩ := cf
  unfold ev_stp at hs
  dsimp only at hs
  obtain ⟨hx, hb, hml, hret, hown, hnm, hlk, hts, hK, hRf, hRl, hbs⟩ := X
  split at hs
  · rename_i i nx x1 x2 v ts hf
    obtain ⟨hB, -⟩ := hok.2.2 _ (ev_fnd_mem _ _ _ hf)
    dsimp only at hB
    simp only [ev_okB, Bool.and_eq_true, Bool.or_eq_true, decide_eq_true_eq] at hB
    obtain ⟨hd0, hlt, hln, hcc⟩ := hB
    have hd2 : ev_ln i ≠ 0 → decode T.1.2.2.1 pc = .ok (i, ev_ln i) ∧ nx = pc + ev_ln i := by
      intro hne
      rcases hln with q | q
      · exact absurd q hne
      · refine ⟨?_, q⟩
        rw [hd0, q]
        congr 2
        omega
    have hq : ∀ (H : Heap) (locs : List Loc), ev_P D s h H → va_S (fun q => bs ≤ q) s.heap H locs → ∀ t : State, t.heap = H → s.WarmedH t.vm → ev_Qc D bs w h args s (.returned w) t := fun H locs hP hS t ht hW => ⟨rfl, by rw [ht]; exact ev_P.moved hW.alike hP, hS.F ht⟩
    rcases ev_inr hs with ⟨rfl, q⟩ | ⟨rfl, q⟩ | ⟨rfl, q⟩ | ⟨rfl, q⟩ | ⟨idx, rfl, h1, q⟩ | ⟨idx, rfl, h1, q⟩ | ⟨idx, rfl, q⟩
    · obtain ⟨hd, -⟩ := hd2 (Nat.succ_ne_zero _)
      unfold ev_ret at q
      split at q
      · rename_i w0 ty hr
        obtain ⟨hk, q⟩ := ev_cond (y := some (Sum.inr (Sum.inl w))) q
        rw [Bool.and_eq_true, Bool.and_eq_true] at hk
        obtain ⟨x, rfl⟩ := ev_kd0 (Nat.eq_of_beq_eq_true hk.1) rfl
        cases q
        intro H locs ls hP hS hL
        exact W.zret hx hb (hret.trans hr) (of_decide_eq_true hk.2.2) (hq H locs hP hS) hS.2.2 hd
      · cases q
    · obtain ⟨hd, -⟩ := hd2 (Nat.succ_ne_zero _)
      unfold ev_ret at q
      split at q
      · rename_i w0 ty hr
        obtain ⟨hk, q⟩ := ev_cond (y := some (Sum.inr (Sum.inl w))) q
        rw [Bool.and_eq_true, Bool.and_eq_true] at hk
        obtain ⟨x, rfl⟩ := ev_kd1 (Nat.eq_of_beq_eq_true hk.1) rfl
        cases q
        intro H locs ls hP hS hL
        have hty : ty = .long := by
          have h9 := Nat.eq_of_beq_eq_true hk.2.1
          cases ty <;> first | rfl | (simp [ev_rk] at h9)
        subst hty
        exact W.lret hx hb (hret.trans hr) (hq H locs hP hS) hS.2.2 hd
      · cases q
    · obtain ⟨hd, -⟩ := hd2 (Nat.succ_ne_zero _)
      unfold ev_ret at q
      split at q
      · rename_i w0 ty hr
        obtain ⟨hk, q⟩ := ev_cond (y := some (Sum.inr (Sum.inl w))) q
        rw [Bool.and_eq_true, Bool.and_eq_true] at hk
        have hkk := ev_kd2 (Nat.eq_of_beq_eq_true hk.1) rfl
        cases q
        intro H locs ls hP hS hL
        have hty : (∃ n, ty = .object n) ∨ ∃ t, ty = .array t := by
          have h9 := Nat.eq_of_beq_eq_true hk.2.1
          cases ty <;> first | exact Or.inl ⟨_, rfl⟩ | exact Or.inr ⟨_, rfl⟩ | (simp [ev_rk] at h9)
        exact W.aret hx hb (hret.trans hr) hty hkk (hq H locs hP hS) hS.2.2 hd
      · cases q
    · obtain ⟨hd, -⟩ := hd2 (Nat.succ_ne_zero _)
      unfold ev_rtv at q
      split at q
      · rename_i hr
        cases q
        intro H locs ls hP hS hL
        exact W.vret hx hb (hret.trans hr) (hq H locs hP hS) hS.2.2 hd
      · cases q
    · exfalso; unfold ev_callS at q
      have q := (ev_cond (y := some (Sum.inr (Sum.inl w))) q).2; cases q
    · exfalso; unfold ev_callI at q
      split at q
      · have q := (ev_cond (y := some (Sum.inr (Sum.inl w))) q).2; cases q
      · cases q
    · exfalso; unfold ev_callV at q
      split at q
      · split at q
        · have q := (ev_cond (y := some (Sum.inr (Sum.inl w))) q).2; cases q
        · cases q
      · cases q
  · cases hs
/-- SOUNDNESS: a run of the evaluator is a contract of the method -/
theorem ev_sound (hGl : ev_glob) (htb : ∀ y T, tb y = some T → ev_ok tb T) : ∀ (d y : Nat) (as : List Value) (h : e_H) (v : Option Value) (h' : e_H), ev_run tb bs sa d y as h v h' → ∀ T, tb y = some T → ev_Met l D bs sa d T as h v h' := by
  intro d
  induction d with
  | zero => intro y as h v h' q; exact q.elim
  | succ d ih =>
    intro y as h v h' q T hT
    obtain ⟨T', n, hT', hlen, hr⟩ := q
    cases hT.symm.trans hT'
    have hok := htb y T hT
    unfold ev_Met
    refine Met.ofW (cc := T.1.2.2.1) (maxL := T.1.2.2.2.1) (ret := T.1.2.2.2.2) (ws' := ev_GW) (by rw [hok.1]; exact hok.2.1) rfl ?_
    intro p e s m args below meth c s₁ B hml hv
    obtain ⟨rfl, hbs, hP, hK⟩ := hv
    have hts0 := atoms_spec (ws := ev_ws T) B.pre
    have hts : ∀ w ∈ ev_GW, w.before as.toArray s = true := fun w hw => hts0 w (List.mem_cons_of_mem _ hw)
    have hown : s.vm.findClass T.1.1 = some m.cls := by rw [← hok.1]; exact findClass_of_methodNamed B.named
    have X : ev_X p (headSpec (ev_ws T) (ev_rm (d + 1) (ev_cn h' - ev_cn h) (ev_sn h' - ev_sn h))).room s m as.toArray meth c D bs sa T d := ⟨B.exec, B.bytes, hml, B.returns, hown, (name_of_methodNamed B.named B.method).1, B.notSynchronized, hts, hK, Nat.le_refl _, Nat.le_refl _, hbs⟩
    rw [lg_entry_eq]
    have hW := ev_rch_W (p := p) (l := l) (e := e) (s := s) (m := m) (below := below) (meth := meth) (c := c) (c0 := ev_cn h) (s0 := ev_sn h) (Q := MQ below (ev_Qc D bs v h') as.toArray s (ev_cn h' - ev_cn h) (ev_sn h' - ev_sn h) (fun q => bs ≤ q)) (E := fun x => x = .inr (v, h')) X hGl hok ih
      (fun cf q => by cases q)
      (fun cf w q hs => by
        simp only [Sum.inr.injEq, Prod.mk.injEq] at q
        obtain ⟨rfl, rfl⟩ := q
        exact ev_ends X hok hs)
      (fun x q => by subst q; exact ⟨Nat.le_refl _, Nat.le_refl _⟩) n _ (Nat.le_refl _) (Nat.le_refl _) hr
    have := hW s.heap [] _ hP va_S.rf (ev_LR.entry as hlen)
    exact W.cs (by simp) (by simp) this
end EVR
end
section
/-! the methods, as tables for the evaluator (printed by wip/whole/gen10.py) -/
def t_X0_init : e_M := ((RX0, yX0_init, cX0_init, 1, (Option.none : Option FieldType)), [(0, .aload_n 0, 1, 0, 0, .null, []),
  (1, .invokespecial 3, 4, 1000, 0, .null, []),
  (4, .aload_n 0, 5, 0, 0, .null, []),
  (5, .bipush 64, 7, 0, 0, .int 64, []),
  (7, .newarray .int, 9, 0, 0, .null, []),
  (9, .putfield 11, 12, 0, 0, .null, []),
  (12, .aload_n 0, 13, 0, 0, .null, []),
  (13, .bipush 64, 15, 0, 0, .int 64, []),
  (15, .newarray .int, 17, 0, 0, .null, []),
  (17, .putfield 15, 20, 0, 1, .null, []),
  (20, .aload_n 0, 21, 0, 0, .null, []),
  (21, .bipush 8, 23, 0, 0, .int 8, []),
  (23, .newarray .int, 25, 0, 0, .null, []),
  (25, .putfield 18, 28, 0, 2, .null, []),
  (28, .return_, 29, 0, 0, .null, [])])
def t_X0_begin : e_M := ((RX0, yX0_begin, cX0_begin, 1, (Option.none : Option FieldType)), [(0, .aload_n 0, 1, 0, 0, .null, []),
  (1, .iconst 0, 2, 0, 0, .int 0, []),
  (2, .putfield 21, 5, 0, 3, .int 0, []),
  (5, .return_, 6, 0, 0, .null, [])])
def t_X0_add : e_M := ((RX0, yX0_add, cX0_add, 2, (Option.none : Option FieldType)), [(0, .aload_n 0, 1, 0, 0, .null, []),
  (1, .getfield 21, 4, 0, 3, .null, []),
  (4, .bipush 61, 6, 0, 0, .int 61, []),
  (6, .if_icmp .ge 23, 9, 29, 0, .null, []),
  (9, .aload_n 0, 10, 0, 0, .null, []),
  (10, .getfield 11, 13, 0, 0, .null, []),
  (13, .aload_n 0, 14, 0, 0, .null, []),
  (14, .getfield 21, 17, 0, 3, .null, []),
  (17, .iload_n 1, 18, 1, 0, .null, []),
  (18, .iastore, 19, 0, 0, .null, []),
  (19, .aload_n 0, 20, 0, 0, .null, []),
  (20, .dup, 21, 0, 0, .null, []),
  (21, .getfield 21, 24, 0, 3, .null, []),
  (24, .iconst 1, 25, 0, 0, .int 1, []),
  (25, .iadd, 26, 0, 0, .null, []),
  (26, .putfield 21, 29, 0, 3, .int 0, []),
  (29, .return_, 30, 0, 0, .null, [])])
def t_X0_addAll : e_M := ((RX0, yX0_addAll, cX0_addAll, 4, (Option.none : Option FieldType)), [(0, .iconst 0, 1, 0, 0, .int 0, []),
  (1, .istore_n 3, 2, 3, 0, .null, []),
  (2, .iload_n 3, 3, 3, 0, .null, []),
  (3, .iload_n 2, 4, 2, 0, .null, []),
  (4, .if_icmp .ge 16, 7, 20, 0, .null, []),
  (7, .aload_n 0, 8, 0, 0, .null, []),
  (8, .aload_n 1, 9, 1, 0, .null, []),
  (9, .iload_n 3, 10, 3, 0, .null, []),
  (10, .iaload, 11, 0, 0, .null, []),
  (11, .invokevirtual 25, 14, 2, 1, .null, [0]),
  (14, .iinc 3 1, 17, 3, 0, .int (1), []),
  (17, .goto (-15), 20, 2, 0, .null, []),
  (20, .return_, 21, 0, 0, .null, [])])
def t_X0_finish : e_M := ((RX0, yX0_finish, cX0_finish, 5, (Option.none : Option FieldType)), [(0, .aload_n 0, 1, 0, 0, .null, []),
  (1, .invokevirtual 29, 4, 5, 0, .null, [0]),
  (4, .istore_n 3, 5, 3, 0, .null, []),
  (5, .getstatic 33, 8, 0, 0, .null, []),
  (8, .iconst 0, 9, 0, 0, .int 0, []),
  (9, .aload_n 0, 10, 0, 0, .null, []),
  (10, .getfield 18, 13, 0, 2, .null, []),
  (13, .iconst 0, 14, 0, 0, .int 0, []),
  (14, .bipush 8, 16, 0, 0, .int 8, []),
  (16, .invokestatic 36, 19, 1001, 0, .null, []),
  (19, .iconst 0, 20, 0, 0, .int 0, []),
  (20, .istore 4, 22, 4, 0, .null, []),
  (22, .iload 4, 24, 4, 0, .null, []),
  (24, .iload_n 3, 25, 3, 0, .null, []),
  (25, .if_icmp .ge 19, 28, 44, 0, .null, []),
  (28, .aload_n 0, 29, 0, 0, .null, []),
  (29, .iload 4, 31, 4, 0, .null, []),
  (31, .invokevirtual 42, 34, 6, 1, .null, [0]),
  (34, .aload_n 0, 35, 0, 0, .null, []),
  (35, .invokevirtual 45, 38, 7, 0, .null, [0]),
  (38, .iinc 4 16, 41, 4, 0, .int (16), []),
  (41, .goto (-19), 44, 22, 0, .null, []),
  (44, .aload_n 0, 45, 0, 0, .null, []),
  (45, .getfield 18, 48, 0, 2, .null, []),
  (48, .iconst 0, 49, 0, 0, .int 0, []),
  (49, .aload_n 1, 50, 1, 0, .null, []),
  (50, .iload_n 2, 51, 2, 0, .null, []),
  (51, .bipush 8, 53, 0, 0, .int 8, []),
  (53, .invokestatic 36, 56, 1001, 0, .null, []),
  (56, .return_, 57, 0, 0, .null, [])])
def t_X0_padMessage : e_M := ((RX0, yX0_padMessage, cX0_padMessage, 3, (some FieldType.int)), [(0, .aload_n 0, 1, 0, 0, .null, []),
  (1, .getfield 21, 4, 0, 3, .null, []),
  (4, .iconst 3, 5, 0, 0, .int 3, []),
  (5, .iadd, 6, 0, 0, .null, []),
  (6, .bipush 16, 8, 0, 0, .int 16, []),
  (8, .iadd, 9, 0, 0, .null, []),
  (9, .iconst 1, 10, 0, 0, .int 1, []),
  (10, .isub, 11, 0, 0, .null, []),
  (11, .bipush 16, 13, 0, 0, .int 16, []),
  (13, .idiv, 14, 0, 0, .null, []),
  (14, .bipush 16, 16, 0, 0, .int 16, []),
  (16, .imul, 17, 0, 0, .null, []),
  (17, .istore_n 1, 18, 1, 0, .null, []),
  (18, .aload_n 0, 19, 0, 0, .null, []),
  (19, .getfield 21, 22, 0, 3, .null, []),
  (22, .istore_n 2, 23, 2, 0, .null, []),
  (23, .iload_n 2, 24, 2, 0, .null, []),
  (24, .iload_n 1, 25, 1, 0, .null, []),
  (25, .if_icmp .ge 16, 28, 41, 0, .null, []),
  (28, .aload_n 0, 29, 0, 0, .null, []),
  (29, .getfield 11, 32, 0, 0, .null, []),
  (32, .iload_n 2, 33, 2, 0, .null, []),
  (33, .iconst 0, 34, 0, 0, .int 0, []),
  (34, .iastore, 35, 0, 0, .null, []),
  (35, .iinc 2 1, 38, 2, 0, .int (1), []),
  (38, .goto (-15), 41, 23, 0, .null, []),
  (41, .aload_n 0, 42, 0, 0, .null, []),
  (42, .getfield 11, 45, 0, 0, .null, []),
  (45, .aload_n 0, 46, 0, 0, .null, []),
  (46, .getfield 21, 49, 0, 3, .null, []),
  (49, .ldc 48, 51, 0, 0, .int (-2147483648), []),
  (51, .iastore, 52, 0, 0, .null, []),
  (52, .aload_n 0, 53, 0, 0, .null, []),
  (53, .getfield 11, 56, 0, 0, .null, []),
  (56, .iload_n 1, 57, 1, 0, .null, []),
  (57, .iconst 1, 58, 0, 0, .int 1, []),
  (58, .isub, 59, 0, 0, .null, []),
  (59, .aload_n 0, 60, 0, 0, .null, []),
  (60, .getfield 21, 63, 0, 3, .null, []),
  (63, .bipush 32, 65, 0, 0, .int 32, []),
  (65, .imul, 66, 0, 0, .null, []),
  (66, .iastore, 67, 0, 0, .null, []),
  (67, .iload_n 1, 68, 1, 0, .null, []),
  (68, .ireturn, 69, 0, 0, .null, [])])
def t_X0_fillSchedule : e_M := ((RX0, yX0_fillSchedule, cX0_fillSchedule, 7, (Option.none : Option FieldType)), [(0, .aload_n 0, 1, 0, 0, .null, []),
  (1, .getfield 11, 4, 0, 0, .null, []),
  (4, .iload_n 1, 5, 1, 0, .null, []),
  (5, .aload_n 0, 6, 0, 0, .null, []),
  (6, .getfield 15, 9, 0, 1, .null, []),
  (9, .iconst 0, 10, 0, 0, .int 0, []),
  (10, .bipush 16, 12, 0, 0, .int 16, []),
  (12, .invokestatic 36, 15, 1001, 0, .null, []),
  (15, .bipush 16, 17, 0, 0, .int 16, []),
  (17, .istore_n 2, 18, 2, 0, .null, []),
  (18, .iload_n 2, 19, 2, 0, .null, []),
  (19, .bipush 64, 21, 0, 0, .int 64, []),
  (21, .if_icmp .ge 102, 24, 123, 0, .null, []),
  (24, .aload_n 0, 25, 0, 0, .null, []),
  (25, .getfield 15, 28, 0, 1, .null, []),
  (28, .iload_n 2, 29, 2, 0, .null, []),
  (29, .bipush 15, 31, 0, 0, .int 15, []),
  (31, .isub, 32, 0, 0, .null, []),
  (32, .iaload, 33, 0, 0, .null, []),
  (33, .istore_n 3, 34, 3, 0, .null, []),
  (34, .aload_n 0, 35, 0, 0, .null, []),
  (35, .getfield 15, 38, 0, 1, .null, []),
  (38, .iload_n 2, 39, 2, 0, .null, []),
  (39, .iconst 2, 40, 0, 0, .int 2, []),
  (40, .isub, 41, 0, 0, .null, []),
  (41, .iaload, 42, 0, 0, .null, []),
  (42, .istore 4, 44, 4, 0, .null, []),
  (44, .iload_n 3, 45, 3, 0, .null, []),
  (45, .bipush 7, 47, 0, 0, .int 7, []),
  (47, .invokestatic 49, 50, 8, 2, .null, []),
  (50, .iload_n 3, 51, 3, 0, .null, []),
  (51, .bipush 18, 53, 0, 0, .int 18, []),
  (53, .invokestatic 49, 56, 8, 2, .null, []),
  (56, .ixor, 57, 0, 0, .null, []),
  (57, .iload_n 3, 58, 3, 0, .null, []),
  (58, .iconst 3, 59, 0, 0, .int 3, []),
  (59, .iushr, 60, 0, 0, .null, []),
  (60, .ixor, 61, 0, 0, .null, []),
  (61, .istore 5, 63, 5, 0, .null, []),
  (63, .iload 4, 65, 4, 0, .null, []),
  (65, .bipush 17, 67, 0, 0, .int 17, []),
  (67, .invokestatic 49, 70, 8, 2, .null, []),
  (70, .iload 4, 72, 4, 0, .null, []),
  (72, .bipush 19, 74, 0, 0, .int 19, []),
  (74, .invokestatic 49, 77, 8, 2, .null, []),
  (77, .ixor, 78, 0, 0, .null, []),
  (78, .iload 4, 80, 4, 0, .null, []),
  (80, .bipush 10, 82, 0, 0, .int 10, []),
  (82, .iushr, 83, 0, 0, .null, []),
  (83, .ixor, 84, 0, 0, .null, []),
  (84, .istore 6, 86, 6, 0, .null, []),
  (86, .aload_n 0, 87, 0, 0, .null, []),
  (87, .getfield 15, 90, 0, 1, .null, []),
  (90, .iload_n 2, 91, 2, 0, .null, []),
  (91, .aload_n 0, 92, 0, 0, .null, []),
  (92, .getfield 15, 95, 0, 1, .null, []),
  (95, .iload_n 2, 96, 2, 0, .null, []),
  (96, .bipush 16, 98, 0, 0, .int 16, []),
  (98, .isub, 99, 0, 0, .null, []),
  (99, .iaload, 100, 0, 0, .null, []),
  (100, .iload 5, 102, 5, 0, .null, []),
  (102, .iadd, 103, 0, 0, .null, []),
  (103, .aload_n 0, 104, 0, 0, .null, []),
  (104, .getfield 15, 107, 0, 1, .null, []),
  (107, .iload_n 2, 108, 2, 0, .null, []),
  (108, .bipush 7, 110, 0, 0, .int 7, []),
  (110, .isub, 111, 0, 0, .null, []),
  (111, .iaload, 112, 0, 0, .null, []),
  (112, .iadd, 113, 0, 0, .null, []),
  (113, .iload 6, 115, 6, 0, .null, []),
  (115, .iadd, 116, 0, 0, .null, []),
  (116, .iastore, 117, 0, 0, .null, []),
  (117, .iinc 2 1, 120, 2, 0, .int (1), []),
  (120, .goto (-102), 123, 18, 0, .null, []),
  (123, .return_, 124, 0, 0, .null, [])])
def t_X0_compress : e_M := ((RX0, yX0_compress, cX0_compress, 15, (Option.none : Option FieldType)), [(0, .aload_n 0, 1, 0, 0, .null, []),
  (1, .getfield 18, 4, 0, 2, .null, []),
  (4, .iconst 0, 5, 0, 0, .int 0, []),
  (5, .iaload, 6, 0, 0, .null, []),
  (6, .istore_n 1, 7, 1, 0, .null, []),
  (7, .aload_n 0, 8, 0, 0, .null, []),
  (8, .getfield 18, 11, 0, 2, .null, []),
  (11, .iconst 1, 12, 0, 0, .int 1, []),
  (12, .iaload, 13, 0, 0, .null, []),
  (13, .istore_n 2, 14, 2, 0, .null, []),
  (14, .aload_n 0, 15, 0, 0, .null, []),
  (15, .getfield 18, 18, 0, 2, .null, []),
  (18, .iconst 2, 19, 0, 0, .int 2, []),
  (19, .iaload, 20, 0, 0, .null, []),
  (20, .istore_n 3, 21, 3, 0, .null, []),
  (21, .aload_n 0, 22, 0, 0, .null, []),
  (22, .getfield 18, 25, 0, 2, .null, []),
  (25, .iconst 3, 26, 0, 0, .int 3, []),
  (26, .iaload, 27, 0, 0, .null, []),
  (27, .istore 4, 29, 4, 0, .null, []),
  (29, .aload_n 0, 30, 0, 0, .null, []),
  (30, .getfield 18, 33, 0, 2, .null, []),
  (33, .iconst 4, 34, 0, 0, .int 4, []),
  (34, .iaload, 35, 0, 0, .null, []),
  (35, .istore 5, 37, 5, 0, .null, []),
  (37, .aload_n 0, 38, 0, 0, .null, []),
  (38, .getfield 18, 41, 0, 2, .null, []),
  (41, .iconst 5, 42, 0, 0, .int 5, []),
  (42, .iaload, 43, 0, 0, .null, []),
  (43, .istore 6, 45, 6, 0, .null, []),
  (45, .aload_n 0, 46, 0, 0, .null, []),
  (46, .getfield 18, 49, 0, 2, .null, []),
  (49, .bipush 6, 51, 0, 0, .int 6, []),
  (51, .iaload, 52, 0, 0, .null, []),
  (52, .istore 7, 54, 7, 0, .null, []),
  (54, .aload_n 0, 55, 0, 0, .null, []),
  (55, .getfield 18, 58, 0, 2, .null, []),
  (58, .bipush 7, 60, 0, 0, .int 7, []),
  (60, .iaload, 61, 0, 0, .null, []),
  (61, .istore 8, 63, 8, 0, .null, []),
  (63, .iconst 0, 64, 0, 0, .int 0, []),
  (64, .istore 9, 66, 9, 0, .null, []),
  (66, .iload 9, 68, 9, 0, .null, []),
  (68, .bipush 64, 70, 0, 0, .int 64, []),
  (70, .if_icmp .ge 143, 73, 213, 0, .null, []),
  (73, .iload 5, 75, 5, 0, .null, []),
  (75, .bipush 6, 77, 0, 0, .int 6, []),
  (77, .invokestatic 49, 80, 8, 2, .null, []),
  (80, .iload 5, 82, 5, 0, .null, []),
  (82, .bipush 11, 84, 0, 0, .int 11, []),
  (84, .invokestatic 49, 87, 8, 2, .null, []),
  (87, .ixor, 88, 0, 0, .null, []),
  (88, .iload 5, 90, 5, 0, .null, []),
  (90, .bipush 25, 92, 0, 0, .int 25, []),
  (92, .invokestatic 49, 95, 8, 2, .null, []),
  (95, .ixor, 96, 0, 0, .null, []),
  (96, .istore 10, 98, 10, 0, .null, []),
  (98, .iload 5, 100, 5, 0, .null, []),
  (100, .iload 6, 102, 6, 0, .null, []),
  (102, .iand, 103, 0, 0, .null, []),
  (103, .iload 5, 105, 5, 0, .null, []),
  (105, .iconst (-1), 106, 0, 0, .int (-1), []),
  (106, .ixor, 107, 0, 0, .null, []),
  (107, .iload 7, 109, 7, 0, .null, []),
  (109, .iand, 110, 0, 0, .null, []),
  (110, .ixor, 111, 0, 0, .null, []),
  (111, .istore 11, 113, 11, 0, .null, []),
  (113, .iload 8, 115, 8, 0, .null, []),
  (115, .iload 10, 117, 10, 0, .null, []),
  (117, .iadd, 118, 0, 0, .null, []),
  (118, .iload 11, 120, 11, 0, .null, []),
  (120, .iadd, 121, 0, 0, .null, []),
  (121, .getstatic 53, 124, 1, 0, .null, []),
  (124, .iload 9, 126, 9, 0, .null, []),
  (126, .iaload, 127, 0, 0, .null, []),
  (127, .iadd, 128, 0, 0, .null, []),
  (128, .aload_n 0, 129, 0, 0, .null, []),
  (129, .getfield 15, 132, 0, 1, .null, []),
  (132, .iload 9, 134, 9, 0, .null, []),
  (134, .iaload, 135, 0, 0, .null, []),
  (135, .iadd, 136, 0, 0, .null, []),
  (136, .istore 12, 138, 12, 0, .null, []),
  (138, .iload_n 1, 139, 1, 0, .null, []),
  (139, .iconst 2, 140, 0, 0, .int 2, []),
  (140, .invokestatic 49, 143, 8, 2, .null, []),
  (143, .iload_n 1, 144, 1, 0, .null, []),
  (144, .bipush 13, 146, 0, 0, .int 13, []),
  (146, .invokestatic 49, 149, 8, 2, .null, []),
  (149, .ixor, 150, 0, 0, .null, []),
  (150, .iload_n 1, 151, 1, 0, .null, []),
  (151, .bipush 22, 153, 0, 0, .int 22, []),
  (153, .invokestatic 49, 156, 8, 2, .null, []),
  (156, .ixor, 157, 0, 0, .null, []),
  (157, .istore 13, 159, 13, 0, .null, []),
  (159, .iload_n 1, 160, 1, 0, .null, []),
  (160, .iload_n 2, 161, 2, 0, .null, []),
  (161, .iand, 162, 0, 0, .null, []),
  (162, .iload_n 1, 163, 1, 0, .null, []),
  (163, .iload_n 3, 164, 3, 0, .null, []),
  (164, .iand, 165, 0, 0, .null, []),
  (165, .ixor, 166, 0, 0, .null, []),
  (166, .iload_n 2, 167, 2, 0, .null, []),
  (167, .iload_n 3, 168, 3, 0, .null, []),
  (168, .iand, 169, 0, 0, .null, []),
  (169, .ixor, 170, 0, 0, .null, []),
  (170, .istore 14, 172, 14, 0, .null, []),
  (172, .iload 7, 174, 7, 0, .null, []),
  (174, .istore 8, 176, 8, 0, .null, []),
  (176, .iload 6, 178, 6, 0, .null, []),
  (178, .istore 7, 180, 7, 0, .null, []),
  (180, .iload 5, 182, 5, 0, .null, []),
  (182, .istore 6, 184, 6, 0, .null, []),
  (184, .iload 4, 186, 4, 0, .null, []),
  (186, .iload 12, 188, 12, 0, .null, []),
  (188, .iadd, 189, 0, 0, .null, []),
  (189, .istore 5, 191, 5, 0, .null, []),
  (191, .iload_n 3, 192, 3, 0, .null, []),
  (192, .istore 4, 194, 4, 0, .null, []),
  (194, .iload_n 2, 195, 2, 0, .null, []),
  (195, .istore_n 3, 196, 3, 0, .null, []),
  (196, .iload_n 1, 197, 1, 0, .null, []),
  (197, .istore_n 2, 198, 2, 0, .null, []),
  (198, .iload 12, 200, 12, 0, .null, []),
  (200, .iload 13, 202, 13, 0, .null, []),
  (202, .iadd, 203, 0, 0, .null, []),
  (203, .iload 14, 205, 14, 0, .null, []),
  (205, .iadd, 206, 0, 0, .null, []),
  (206, .istore_n 1, 207, 1, 0, .null, []),
  (207, .iinc 9 1, 210, 9, 0, .int (1), []),
  (210, .goto (-144), 213, 66, 0, .null, []),
  (213, .aload_n 0, 214, 0, 0, .null, []),
  (214, .getfield 18, 217, 0, 2, .null, []),
  (217, .iconst 0, 218, 0, 0, .int 0, []),
  (218, .dup2, 219, 0, 0, .null, []),
  (219, .iaload, 220, 0, 0, .null, []),
  (220, .iload_n 1, 221, 1, 0, .null, []),
  (221, .iadd, 222, 0, 0, .null, []),
  (222, .iastore, 223, 0, 0, .null, []),
  (223, .aload_n 0, 224, 0, 0, .null, []),
  (224, .getfield 18, 227, 0, 2, .null, []),
  (227, .iconst 1, 228, 0, 0, .int 1, []),
  (228, .dup2, 229, 0, 0, .null, []),
  (229, .iaload, 230, 0, 0, .null, []),
  (230, .iload_n 2, 231, 2, 0, .null, []),
  (231, .iadd, 232, 0, 0, .null, []),
  (232, .iastore, 233, 0, 0, .null, []),
  (233, .aload_n 0, 234, 0, 0, .null, []),
  (234, .getfield 18, 237, 0, 2, .null, []),
  (237, .iconst 2, 238, 0, 0, .int 2, []),
  (238, .dup2, 239, 0, 0, .null, []),
  (239, .iaload, 240, 0, 0, .null, []),
  (240, .iload_n 3, 241, 3, 0, .null, []),
  (241, .iadd, 242, 0, 0, .null, []),
  (242, .iastore, 243, 0, 0, .null, []),
  (243, .aload_n 0, 244, 0, 0, .null, []),
  (244, .getfield 18, 247, 0, 2, .null, []),
  (247, .iconst 3, 248, 0, 0, .int 3, []),
  (248, .dup2, 249, 0, 0, .null, []),
  (249, .iaload, 250, 0, 0, .null, []),
  (250, .iload 4, 252, 4, 0, .null, []),
  (252, .iadd, 253, 0, 0, .null, []),
  (253, .iastore, 254, 0, 0, .null, []),
  (254, .aload_n 0, 255, 0, 0, .null, []),
  (255, .getfield 18, 258, 0, 2, .null, []),
  (258, .iconst 4, 259, 0, 0, .int 4, []),
  (259, .dup2, 260, 0, 0, .null, []),
  (260, .iaload, 261, 0, 0, .null, []),
  (261, .iload 5, 263, 5, 0, .null, []),
  (263, .iadd, 264, 0, 0, .null, []),
  (264, .iastore, 265, 0, 0, .null, []),
  (265, .aload_n 0, 266, 0, 0, .null, []),
  (266, .getfield 18, 269, 0, 2, .null, []),
  (269, .iconst 5, 270, 0, 0, .int 5, []),
  (270, .dup2, 271, 0, 0, .null, []),
  (271, .iaload, 272, 0, 0, .null, []),
  (272, .iload 6, 274, 6, 0, .null, []),
  (274, .iadd, 275, 0, 0, .null, []),
  (275, .iastore, 276, 0, 0, .null, []),
  (276, .aload_n 0, 277, 0, 0, .null, []),
  (277, .getfield 18, 280, 0, 2, .null, []),
  (280, .bipush 6, 282, 0, 0, .int 6, []),
  (282, .dup2, 283, 0, 0, .null, []),
  (283, .iaload, 284, 0, 0, .null, []),
  (284, .iload 7, 286, 7, 0, .null, []),
  (286, .iadd, 287, 0, 0, .null, []),
  (287, .iastore, 288, 0, 0, .null, []),
  (288, .aload_n 0, 289, 0, 0, .null, []),
  (289, .getfield 18, 292, 0, 2, .null, []),
  (292, .bipush 7, 294, 0, 0, .int 7, []),
  (294, .dup2, 295, 0, 0, .null, []),
  (295, .iaload, 296, 0, 0, .null, []),
  (296, .iload 8, 298, 8, 0, .null, []),
  (298, .iadd, 299, 0, 0, .null, []),
  (299, .iastore, 300, 0, 0, .null, []),
  (300, .return_, 301, 0, 0, .null, [])])
def t_X0_turnRight : e_M := ((RX0, yX0_turnRight, cX0_turnRight, 2, (some FieldType.int)), [(0, .iload_n 0, 1, 0, 0, .null, []),
  (1, .iload_n 1, 2, 1, 0, .null, []),
  (2, .iushr, 3, 0, 0, .null, []),
  (3, .iload_n 0, 4, 0, 0, .null, []),
  (4, .bipush 32, 6, 0, 0, .int 32, []),
  (6, .iload_n 1, 7, 1, 0, .null, []),
  (7, .isub, 8, 0, 0, .null, []),
  (8, .ishl, 9, 0, 0, .null, []),
  (9, .ior, 10, 0, 0, .null, []),
  (10, .ireturn, 11, 0, 0, .null, [])])
def t_X1_init : e_M := ((RX1, yX1_init, cX1_init, 1, (Option.none : Option FieldType)), [(0, .aload_n 0, 1, 0, 0, .null, []),
  (1, .invokespecial 3, 4, 1000, 0, .null, []),
  (4, .aload_n 0, 5, 0, 0, .null, []),
  (5, .bipush 32, 7, 0, 0, .int 32, []),
  (7, .newarray .int, 9, 0, 0, .null, []),
  (9, .putfield 9, 12, 1, 0, .null, []),
  (12, .aload_n 0, 13, 0, 0, .null, []),
  (13, .bipush 8, 15, 0, 0, .int 8, []),
  (15, .newarray .int, 17, 0, 0, .null, []),
  (17, .putfield 15, 20, 1, 1, .null, []),
  (20, .aload_n 0, 21, 0, 0, .null, []),
  (21, .iconst 0, 22, 0, 0, .int 0, []),
  (22, .putfield 18, 25, 1, 2, .int 0, []),
  (25, .aload_n 0, 26, 0, 0, .null, []),
  (26, .iconst (-1), 27, 0, 0, .int (-1), []),
  (27, .putfield 22, 30, 1, 3, .int 0, []),
  (30, .return_, 31, 0, 0, .null, [])])
def t_X1_own : e_M := ((RX1, yX1_own, cX1_own, 3, (Option.none : Option FieldType)), [(0, .aload_n 0, 1, 0, 0, .null, []),
  (1, .iload_n 1, 2, 1, 0, .null, []),
  (2, .putfield 18, 5, 1, 2, .int 0, []),
  (5, .aload_n 0, 6, 0, 0, .null, []),
  (6, .iload_n 2, 7, 2, 0, .null, []),
  (7, .putfield 22, 10, 1, 3, .int 0, []),
  (10, .return_, 11, 0, 0, .null, [])])
def t_X1_clear : e_M := ((RX1, yX1_clear, cX1_clear, 2, (Option.none : Option FieldType)), [(0, .aload_n 0, 1, 0, 0, .null, []),
  (1, .iconst 0, 2, 0, 0, .int 0, []),
  (2, .putfield 18, 5, 1, 2, .int 0, []),
  (5, .aload_n 0, 6, 0, 0, .null, []),
  (6, .iconst (-1), 7, 0, 0, .int (-1), []),
  (7, .putfield 22, 10, 1, 3, .int 0, []),
  (10, .aload_n 0, 11, 0, 0, .null, []),
  (11, .iconst 0, 12, 0, 0, .int 0, []),
  (12, .putfield 25, 15, 1, 4, .int 0, []),
  (15, .aload_n 0, 16, 0, 0, .null, []),
  (16, .iconst 0, 17, 0, 0, .int 0, []),
  (17, .putfield 28, 20, 1, 5, .int 0, []),
  (20, .aload_n 0, 21, 0, 0, .null, []),
  (21, .iconst 0, 22, 0, 0, .int 0, []),
  (22, .putfield 31, 25, 1, 6, .int 0, []),
  (25, .aload_n 0, 26, 0, 0, .null, []),
  (26, .iconst 0, 27, 0, 0, .int 0, []),
  (27, .putfield 34, 30, 1, 7, .int 0, []),
  (30, .iconst 0, 31, 0, 0, .int 0, []),
  (31, .istore_n 1, 32, 1, 0, .null, []),
  (32, .iload_n 1, 33, 1, 0, .null, []),
  (33, .bipush 32, 35, 0, 0, .int 32, []),
  (35, .if_icmp .ge 16, 38, 51, 0, .null, []),
  (38, .aload_n 0, 39, 0, 0, .null, []),
  (39, .getfield 9, 42, 1, 0, .null, []),
  (42, .iload_n 1, 43, 1, 0, .null, []),
  (43, .iconst 0, 44, 0, 0, .int 0, []),
  (44, .iastore, 45, 0, 0, .null, []),
  (45, .iinc 1 1, 48, 1, 0, .int (1), []),
  (48, .goto (-16), 51, 32, 0, .null, []),
  (51, .iconst 0, 52, 0, 0, .int 0, []),
  (52, .istore_n 1, 53, 1, 0, .null, []),
  (53, .iload_n 1, 54, 1, 0, .null, []),
  (54, .bipush 8, 56, 0, 0, .int 8, []),
  (56, .if_icmp .ge 16, 59, 72, 0, .null, []),
  (59, .aload_n 0, 60, 0, 0, .null, []),
  (60, .getfield 15, 63, 1, 1, .null, []),
  (63, .iload_n 1, 64, 1, 0, .null, []),
  (64, .iconst 0, 65, 0, 0, .int 0, []),
  (65, .iastore, 66, 0, 0, .null, []),
  (66, .iinc 1 1, 69, 1, 0, .int (1), []),
  (69, .goto (-16), 72, 53, 0, .null, []),
  (72, .return_, 73, 0, 0, .null, [])])
def t_X1_isSaved : e_M := ((RX1, yX1_isSaved, cX1_isSaved, 1, (some FieldType.boolean)), [(0, .aload_n 0, 1, 0, 0, .null, []),
  (1, .getfield 18, 4, 1, 2, .null, []),
  (4, .iconst 2, 5, 0, 0, .int 2, []),
  (5, .if_icmp .ne 16, 8, 21, 0, .null, []),
  (8, .aload_n 0, 9, 0, 0, .null, []),
  (9, .getfield 9, 12, 1, 0, .null, []),
  (12, .iconst 1, 13, 0, 0, .int 1, []),
  (13, .iaload, 14, 0, 0, .null, []),
  (14, .ifCond .eq 7, 17, 21, 0, .null, []),
  (17, .iconst 1, 18, 0, 0, .int 1, []),
  (18, .goto 4, 21, 22, 0, .null, []),
  (21, .iconst 0, 22, 0, 0, .int 0, []),
  (22, .ireturn, 23, 0, 0, .null, [])])
def t_X1_isDataOf : e_M := ((RX1, yX1_isDataOf, cX1_isDataOf, 2, (some FieldType.boolean)), [(0, .aload_n 0, 1, 0, 0, .null, []),
  (1, .getfield 18, 4, 1, 2, .null, []),
  (4, .iconst 3, 5, 0, 0, .int 3, []),
  (5, .if_icmp .ne 15, 8, 20, 0, .null, []),
  (8, .aload_n 0, 9, 0, 0, .null, []),
  (9, .getfield 22, 12, 1, 3, .null, []),
  (12, .iload_n 1, 13, 1, 0, .null, []),
  (13, .if_icmp .ne 7, 16, 20, 0, .null, []),
  (16, .iconst 1, 17, 0, 0, .int 1, []),
  (17, .goto 4, 20, 21, 0, .null, []),
  (20, .iconst 0, 21, 0, 0, .int 0, []),
  (21, .ireturn, 22, 0, 0, .null, [])])
def t_X1_numberIn : e_M := ((RX1, yX1_numberIn, cX1_numberIn, 2, (some FieldType.long)), [(0, .iload_n 1, 1, 1, 0, .null, []),
  (1, .bipush 16, 3, 0, 0, .int 16, []),
  (3, .invokestatic 37, 6, 53, 2, .null, []),
  (6, .ifCond .eq 27, 9, 33, 0, .null, []),
  (9, .aload_n 0, 10, 0, 0, .null, []),
  (10, .getfield 9, 13, 1, 0, .null, []),
  (13, .iconst 2, 14, 0, 0, .int 2, []),
  (14, .iload_n 1, 15, 1, 0, .null, []),
  (15, .imul, 16, 0, 0, .null, []),
  (16, .iaload, 17, 0, 0, .null, []),
  (17, .aload_n 0, 18, 0, 0, .null, []),
  (18, .getfield 9, 21, 1, 0, .null, []),
  (21, .iconst 2, 22, 0, 0, .int 2, []),
  (22, .iload_n 1, 23, 1, 0, .null, []),
  (23, .imul, 24, 0, 0, .null, []),
  (24, .iconst 1, 25, 0, 0, .int 1, []),
  (25, .iadd, 26, 0, 0, .null, []),
  (26, .iaload, 27, 0, 0, .null, []),
  (27, .invokestatic 41, 30, 16, 2, .null, []),
  (30, .goto 4, 33, 34, 0, .null, []),
  (33, .lconst 0, 34, 0, 0, .long 0, []),
  (34, .lreturn, 35, 0, 0, .null, [])])
def t_X1_setNumber : e_M := ((RX1, yX1_setNumber, cX1_setNumber, 4, (Option.none : Option FieldType)), [(0, .iload_n 1, 1, 1, 0, .null, []),
  (1, .bipush 16, 3, 0, 0, .int 16, []),
  (3, .invokestatic 37, 6, 53, 2, .null, []),
  (6, .ifCond .eq 28, 9, 34, 0, .null, []),
  (9, .aload_n 0, 10, 0, 0, .null, []),
  (10, .getfield 9, 13, 1, 0, .null, []),
  (13, .iconst 2, 14, 0, 0, .int 2, []),
  (14, .iload_n 1, 15, 1, 0, .null, []),
  (15, .imul, 16, 0, 0, .null, []),
  (16, .lload_n 2, 17, 2, 0, .null, []),
  (17, .bipush 32, 19, 0, 0, .int 32, []),
  (19, .lushr, 20, 0, 0, .null, []),
  (20, .l2i, 21, 0, 0, .null, []),
  (21, .iastore, 22, 0, 0, .null, []),
  (22, .aload_n 0, 23, 0, 0, .null, []),
  (23, .getfield 9, 26, 1, 0, .null, []),
  (26, .iconst 2, 27, 0, 0, .int 2, []),
  (27, .iload_n 1, 28, 1, 0, .null, []),
  (28, .imul, 29, 0, 0, .null, []),
  (29, .iconst 1, 30, 0, 0, .int 1, []),
  (30, .iadd, 31, 0, 0, .null, []),
  (31, .lload_n 2, 32, 2, 0, .null, []),
  (32, .l2i, 33, 0, 0, .null, []),
  (33, .iastore, 34, 0, 0, .null, []),
  (34, .return_, 35, 0, 0, .null, [])])
def t_X1_join : e_M := ((RX1, yX1_join, cX1_join, 2, (some FieldType.long)), [(0, .iload_n 0, 1, 0, 0, .null, []),
  (1, .i2l, 2, 0, 0, .null, []),
  (2, .bipush 32, 4, 0, 0, .int 32, []),
  (4, .lshl, 5, 0, 0, .null, []),
  (5, .iload_n 1, 6, 1, 0, .null, []),
  (6, .i2l, 7, 0, 0, .null, []),
  (7, .ldc2_w 45, 10, 0, 0, .long (4294967295), []),
  (10, .land, 11, 0, 0, .null, []),
  (11, .lor, 12, 0, 0, .null, []),
  (12, .lreturn, 13, 0, 0, .null, [])])
def t_X2_init : e_M := ((RX2, yX2_init, cX2_init, 1, (Option.none : Option FieldType)), [(0, .aload_n 0, 1, 0, 0, .null, []),
  (1, .invokespecial 3, 4, 1000, 0, .null, []),
  (4, .aload_n 0, 5, 0, 0, .null, []),
  (5, .bipush 32, 7, 0, 0, .int 32, []),
  (7, .anewarray 9, 10, 0, 0, .null, []),
  (10, .putfield 11, 13, 2, 0, .null, []),
  (13, .aload_n 0, 14, 0, 0, .null, []),
  (14, .iconst (-1), 15, 0, 0, .int (-1), []),
  (15, .putfield 17, 18, 2, 1, .int 0, []),
  (18, .aload_n 0, 19, 0, 0, .null, []),
  (19, .iconst (-1), 20, 0, 0, .int (-1), []),
  (20, .putfield 21, 23, 2, 2, .int 0, []),
  (23, .aload_n 0, 24, 0, 0, .null, []),
  (24, .iconst (-1), 25, 0, 0, .int (-1), []),
  (25, .putfield 24, 28, 2, 3, .int 0, []),
  (28, .aload_n 0, 29, 0, 0, .null, []),
  (29, .iconst (-1), 30, 0, 0, .int (-1), []),
  (30, .putfield 27, 33, 2, 4, .int 0, []),
  (33, .return_, 34, 0, 0, .null, [])])
def t_X2_mapSpace : e_M := ((RX2, yX2_mapSpace, cX2_mapSpace, 4, (Option.none : Option FieldType)), [(0, .iconst 0, 1, 0, 0, .int 0, []),
  (1, .istore_n 3, 2, 3, 0, .null, []),
  (2, .iload_n 3, 3, 3, 0, .null, []),
  (3, .bipush 32, 5, 0, 0, .int 32, []),
  (5, .if_icmp .ge 16, 8, 21, 0, .null, []),
  (8, .aload_n 0, 9, 0, 0, .null, []),
  (9, .getfield 11, 12, 2, 0, .null, []),
  (12, .iload_n 3, 13, 3, 0, .null, []),
  (13, .aconst_null, 14, 0, 0, .null, []),
  (14, .aastore, 15, 0, 0, .null, []),
  (15, .iinc 3 1, 18, 3, 0, .int (1), []),
  (18, .goto (-16), 21, 2, 0, .null, []),
  (21, .aload_n 1, 22, 1, 0, .null, []),
  (22, .arraylength, 23, 0, 0, .null, []),
  (23, .iconst 1, 24, 0, 0, .int 1, []),
  (24, .isub, 25, 0, 0, .null, []),
  (25, .istore_n 3, 26, 3, 0, .null, []),
  (26, .iload_n 3, 27, 3, 0, .null, []),
  (27, .ifCond .lt 47, 30, 74, 0, .null, []),
  (30, .aload_n 1, 31, 1, 0, .null, []),
  (31, .iload_n 3, 32, 3, 0, .null, []),
  (32, .aaload, 33, 0, 0, .null, []),
  (33, .iload_n 2, 34, 2, 0, .null, []),
  (34, .invokevirtual 30, 37, 13, 1, .null, [1]),
  (37, .ifCond .eq 31, 40, 68, 0, .null, []),
  (40, .aload_n 1, 41, 1, 0, .null, []),
  (41, .iload_n 3, 42, 3, 0, .null, []),
  (42, .aaload, 43, 0, 0, .null, []),
  (43, .getfield 34, 46, 1, 4, .null, []),
  (46, .bipush 32, 48, 0, 0, .int 32, []),
  (48, .invokestatic 37, 51, 53, 2, .null, []),
  (51, .ifCond .eq 17, 54, 68, 0, .null, []),
  (54, .aload_n 0, 55, 0, 0, .null, []),
  (55, .getfield 11, 58, 2, 0, .null, []),
  (58, .aload_n 1, 59, 1, 0, .null, []),
  (59, .iload_n 3, 60, 3, 0, .null, []),
  (60, .aaload, 61, 0, 0, .null, []),
  (61, .getfield 34, 64, 1, 4, .null, []),
  (64, .aload_n 1, 65, 1, 0, .null, []),
  (65, .iload_n 3, 66, 3, 0, .null, []),
  (66, .aaload, 67, 0, 0, .null, []),
  (67, .aastore, 68, 0, 0, .null, []),
  (68, .iinc 3 (-1), 71, 3, 0, .int (-1), []),
  (71, .goto (-45), 74, 26, 0, .null, []),
  (74, .return_, 75, 0, 0, .null, [])])
def t_X2_go : e_M := ((RX2, yX2_go, cX2_go, 6, (Option.none : Option FieldType)), [(0, .aload_n 0, 1, 0, 0, .null, []),
  (1, .iconst 0, 2, 0, 0, .int 0, []),
  (2, .putfield 21, 5, 2, 2, .int 0, []),
  (5, .aload_n 0, 6, 0, 0, .null, []),
  (6, .iconst (-1), 7, 0, 0, .int (-1), []),
  (7, .putfield 24, 10, 2, 3, .int 0, []),
  (10, .aload_n 0, 11, 0, 0, .null, []),
  (11, .iconst 0, 12, 0, 0, .int 0, []),
  (12, .putfield 27, 15, 2, 4, .int 0, []),
  (15, .iconst (-1), 16, 0, 0, .int (-1), []),
  (16, .istore 4, 18, 4, 0, .null, []),
  (18, .iconst 0, 19, 0, 0, .int 0, []),
  (19, .istore 5, 21, 5, 0, .null, []),
  (21, .iload 5, 23, 5, 0, .null, []),
  (23, .iload_n 3, 24, 3, 0, .null, []),
  (24, .if_icmp .ge 44, 27, 68, 0, .null, []),
  (27, .iload 4, 29, 4, 0, .null, []),
  (29, .iconst (-1), 30, 0, 0, .int (-1), []),
  (30, .if_icmp .ne 38, 33, 68, 0, .null, []),
  (33, .aload_n 0, 34, 0, 0, .null, []),
  (34, .aload_n 1, 35, 1, 0, .null, []),
  (35, .aload_n 2, 36, 2, 0, .null, []),
  (36, .invokevirtual 41, 39, 21, 2, .null, [2]),
  (39, .istore 4, 41, 4, 0, .null, []),
  (41, .iload 4, 43, 4, 0, .null, []),
  (43, .iconst (-1), 44, 0, 0, .int (-1), []),
  (44, .if_icmp .eq 8, 47, 52, 0, .null, []),
  (47, .iload 4, 49, 4, 0, .null, []),
  (49, .ifCond .ne 13, 52, 62, 0, .null, []),
  (52, .aload_n 0, 53, 0, 0, .null, []),
  (53, .dup, 54, 0, 0, .null, []),
  (54, .getfield 27, 57, 2, 4, .null, []),
  (57, .iconst 1, 58, 0, 0, .int 1, []),
  (58, .iadd, 59, 0, 0, .null, []),
  (59, .putfield 27, 62, 2, 4, .int 0, []),
  (62, .iinc 5 1, 65, 5, 0, .int (1), []),
  (65, .goto (-44), 68, 21, 0, .null, []),
  (68, .aload_n 0, 69, 0, 0, .null, []),
  (69, .iload 4, 71, 4, 0, .null, []),
  (71, .iconst (-1), 72, 0, 0, .int (-1), []),
  (72, .if_icmp .ne 7, 75, 79, 0, .null, []),
  (75, .iconst 2, 76, 0, 0, .int 2, []),
  (76, .goto 5, 79, 81, 0, .null, []),
  (79, .iload 4, 81, 4, 0, .null, []),
  (81, .putfield 17, 84, 2, 1, .int 0, []),
  (84, .aload_n 1, 85, 1, 0, .null, []),
  (85, .iconst 1, 86, 0, 0, .int 1, []),
  (86, .iconst 1, 87, 0, 0, .int 1, []),
  (87, .iastore, 88, 0, 0, .null, []),
  (88, .aload_n 0, 89, 0, 0, .null, []),
  (89, .getfield 17, 92, 2, 1, .null, []),
  (92, .ifCond .ne 8, 95, 100, 0, .null, []),
  (95, .aload_n 0, 96, 0, 0, .null, []),
  (96, .aload_n 1, 97, 1, 0, .null, []),
  (97, .invokevirtual 45, 100, 20, 1, .null, [2]),
  (100, .return_, 101, 0, 0, .null, [])])
def t_X2_forget : e_M := ((RX2, yX2_forget, cX2_forget, 3, (Option.none : Option FieldType)), [(0, .iconst 1, 1, 0, 0, .int 1, []),
  (1, .istore_n 2, 2, 2, 0, .null, []),
  (2, .iload_n 2, 3, 2, 0, .null, []),
  (3, .bipush 11, 5, 0, 0, .int 11, []),
  (5, .if_icmp .ge 13, 8, 18, 0, .null, []),
  (8, .aload_n 1, 9, 1, 0, .null, []),
  (9, .iload_n 2, 10, 2, 0, .null, []),
  (10, .iconst 0, 11, 0, 0, .int 0, []),
  (11, .iastore, 12, 0, 0, .null, []),
  (12, .iinc 2 1, 15, 2, 0, .int (1), []),
  (15, .goto (-13), 18, 2, 0, .null, []),
  (18, .return_, 19, 0, 0, .null, [])])
def t_X2_step : e_M := ((RX2, yX2_step, cX2_step, 10, (some FieldType.int)), [(0, .aload_n 1, 1, 1, 0, .null, []),
  (1, .iconst 2, 2, 0, 0, .int 2, []),
  (2, .iaload, 3, 0, 0, .null, []),
  (3, .istore_n 3, 4, 3, 0, .null, []),
  (4, .aload_n 0, 5, 0, 0, .null, []),
  (5, .iload_n 3, 6, 3, 0, .null, []),
  (6, .iconst 4, 7, 0, 0, .int 4, []),
  (7, .invokevirtual 49, 10, 25, 2, .null, [2]),
  (10, .astore 4, 12, 4, 0, .null, []),
  (12, .aload 4, 14, 4, 0, .null, []),
  (14, .ifnonnull 5, 17, 19, 0, .null, []),
  (17, .iconst 1, 18, 0, 0, .int 1, []),
  (18, .ireturn, 19, 0, 0, .null, []),
  (19, .aload 4, 21, 4, 0, .null, []),
  (21, .getfield 53, 24, 1, 0, .null, []),
  (24, .iload_n 3, 25, 3, 0, .null, []),
  (25, .bipush 32, 27, 0, 0, .int 32, []),
  (27, .irem, 28, 0, 0, .null, []),
  (28, .iaload, 29, 0, 0, .null, []),
  (29, .istore 5, 31, 5, 0, .null, []),
  (31, .iload 5, 33, 5, 0, .null, []),
  (33, .bipush 16, 35, 0, 0, .int 16, []),
  (35, .iushr, 36, 0, 0, .null, []),
  (36, .invokestatic 57, 39, 22, 1, .null, []),
  (39, .istore 6, 41, 6, 0, .null, []),
  (41, .iload 5, 43, 5, 0, .null, []),
  (43, .bipush 8, 45, 0, 0, .int 8, []),
  (45, .iushr, 46, 0, 0, .null, []),
  (46, .invokestatic 57, 49, 22, 1, .null, []),
  (49, .istore 7, 51, 7, 0, .null, []),
  (51, .iload 5, 53, 5, 0, .null, []),
  (53, .invokestatic 57, 56, 22, 1, .null, []),
  (56, .istore 8, 58, 8, 0, .null, []),
  (58, .iload_n 3, 59, 3, 0, .null, []),
  (59, .iconst 1, 60, 0, 0, .int 1, []),
  (60, .iadd, 61, 0, 0, .null, []),
  (61, .istore 9, 63, 9, 0, .null, []),
  (63, .iload 5, 65, 5, 0, .null, []),
  (65, .bipush 24, 67, 0, 0, .int 24, []),
  (67, .iushr, 68, 0, 0, .null, []),
  (68, .tableswitch 224 0 9 #[56, 66, 76, 92, 108, 124, 147, 171, 193, 210], 124, 0, 0, .null, [292, 124, 134, 144, 160, 176, 192, 215, 239, 261, 278]),
  (124, .aload_n 0, 125, 0, 0, .null, []),
  (125, .aload_n 1, 126, 1, 0, .null, []),
  (126, .iload 6, 128, 6, 0, .null, []),
  (128, .iaload, 129, 0, 0, .null, []),
  (129, .putfield 21, 132, 2, 2, .int 0, []),
  (132, .iconst 0, 133, 0, 0, .int 0, []),
  (133, .ireturn, 134, 0, 0, .null, []),
  (134, .aload_n 1, 135, 1, 0, .null, []),
  (135, .iload 6, 137, 6, 0, .null, []),
  (137, .iload 5, 139, 5, 0, .null, []),
  (139, .i2s, 140, 0, 0, .null, []),
  (140, .iastore, 141, 0, 0, .null, []),
  (141, .goto 153, 144, 294, 0, .null, []),
  (144, .aload_n 1, 145, 1, 0, .null, []),
  (145, .iload 6, 147, 6, 0, .null, []),
  (147, .aload_n 1, 148, 1, 0, .null, []),
  (148, .iload 7, 150, 7, 0, .null, []),
  (150, .iaload, 151, 0, 0, .null, []),
  (151, .aload_n 1, 152, 1, 0, .null, []),
  (152, .iload 8, 154, 8, 0, .null, []),
  (154, .iaload, 155, 0, 0, .null, []),
  (155, .iadd, 156, 0, 0, .null, []),
  (156, .iastore, 157, 0, 0, .null, []),
  (157, .goto 137, 160, 294, 0, .null, []),
  (160, .aload_n 1, 161, 1, 0, .null, []),
  (161, .iload 6, 163, 6, 0, .null, []),
  (163, .aload_n 1, 164, 1, 0, .null, []),
  (164, .iload 7, 166, 7, 0, .null, []),
  (166, .iaload, 167, 0, 0, .null, []),
  (167, .aload_n 1, 168, 1, 0, .null, []),
  (168, .iload 8, 170, 8, 0, .null, []),
  (170, .iaload, 171, 0, 0, .null, []),
  (171, .ixor, 172, 0, 0, .null, []),
  (172, .iastore, 173, 0, 0, .null, []),
  (173, .goto 121, 176, 294, 0, .null, []),
  (176, .aload_n 1, 177, 1, 0, .null, []),
  (177, .iload 6, 179, 6, 0, .null, []),
  (179, .aload_n 1, 180, 1, 0, .null, []),
  (180, .iload 7, 182, 7, 0, .null, []),
  (182, .iaload, 183, 0, 0, .null, []),
  (183, .aload_n 1, 184, 1, 0, .null, []),
  (184, .iload 8, 186, 8, 0, .null, []),
  (186, .iaload, 187, 0, 0, .null, []),
  (187, .imul, 188, 0, 0, .null, []),
  (188, .iastore, 189, 0, 0, .null, []),
  (189, .goto 105, 192, 294, 0, .null, []),
  (192, .aload_n 0, 193, 0, 0, .null, []),
  (193, .aload_n 1, 194, 1, 0, .null, []),
  (194, .iload 6, 196, 6, 0, .null, []),
  (196, .aload_n 1, 197, 1, 0, .null, []),
  (197, .iload 7, 199, 7, 0, .null, []),
  (199, .iaload, 200, 0, 0, .null, []),
  (200, .iload 5, 202, 5, 0, .null, []),
  (202, .sipush 255, 205, 0, 0, .int 255, []),
  (205, .iand, 206, 0, 0, .null, []),
  (206, .iadd, 207, 0, 0, .null, []),
  (207, .invokevirtual 61, 210, 23, 3, .null, [2]),
  (210, .ifCond .ne 84, 213, 294, 0, .null, []),
  (213, .iconst 1, 214, 0, 0, .int 1, []),
  (214, .ireturn, 215, 0, 0, .null, []),
  (215, .aload_n 0, 216, 0, 0, .null, []),
  (216, .aload_n 1, 217, 1, 0, .null, []),
  (217, .iload 6, 219, 6, 0, .null, []),
  (219, .iaload, 220, 0, 0, .null, []),
  (220, .aload_n 1, 221, 1, 0, .null, []),
  (221, .iload 7, 223, 7, 0, .null, []),
  (223, .iaload, 224, 0, 0, .null, []),
  (224, .iload 5, 226, 5, 0, .null, []),
  (226, .sipush 255, 229, 0, 0, .int 255, []),
  (229, .iand, 230, 0, 0, .null, []),
  (230, .iadd, 231, 0, 0, .null, []),
  (231, .invokevirtual 65, 234, 24, 2, .null, [2]),
  (234, .ifCond .ne 60, 237, 294, 0, .null, []),
  (237, .iconst 1, 238, 0, 0, .int 1, []),
  (238, .ireturn, 239, 0, 0, .null, []),
  (239, .aload_n 1, 240, 1, 0, .null, []),
  (240, .iload 6, 242, 6, 0, .null, []),
  (242, .iaload, 243, 0, 0, .null, []),
  (243, .ifCond .eq 11, 246, 254, 0, .null, []),
  (246, .iload_n 3, 247, 3, 0, .null, []),
  (247, .iload 5, 249, 5, 0, .null, []),
  (249, .i2s, 250, 0, 0, .null, []),
  (250, .iadd, 251, 0, 0, .null, []),
  (251, .goto 5, 254, 256, 0, .null, []),
  (254, .iload 9, 256, 9, 0, .null, []),
  (256, .istore 9, 258, 9, 0, .null, []),
  (258, .goto 36, 261, 294, 0, .null, []),
  (261, .aload_n 1, 262, 1, 0, .null, []),
  (262, .iload 6, 264, 6, 0, .null, []),
  (264, .aload_n 1, 265, 1, 0, .null, []),
  (265, .iload 7, 267, 7, 0, .null, []),
  (267, .iaload, 268, 0, 0, .null, []),
  (268, .iload 5, 270, 5, 0, .null, []),
  (270, .bipush 31, 272, 0, 0, .int 31, []),
  (272, .iand, 273, 0, 0, .null, []),
  (273, .iushr, 274, 0, 0, .null, []),
  (274, .iastore, 275, 0, 0, .null, []),
  (275, .goto 19, 278, 294, 0, .null, []),
  (278, .aload_n 1, 279, 1, 0, .null, []),
  (279, .iload 6, 281, 6, 0, .null, []),
  (281, .aload_n 2, 282, 2, 0, .null, []),
  (282, .iload 5, 284, 5, 0, .null, []),
  (284, .bipush 7, 286, 0, 0, .int 7, []),
  (286, .iand, 287, 0, 0, .null, []),
  (287, .iaload, 288, 0, 0, .null, []),
  (288, .iastore, 289, 0, 0, .null, []),
  (289, .goto 5, 292, 294, 0, .null, []),
  (292, .iconst 3, 293, 0, 0, .int 3, []),
  (293, .ireturn, 294, 0, 0, .null, []),
  (294, .aload_n 1, 295, 1, 0, .null, []),
  (295, .iconst 2, 296, 0, 0, .int 2, []),
  (296, .iload 9, 298, 9, 0, .null, []),
  (298, .iastore, 299, 0, 0, .null, []),
  (299, .iconst (-1), 300, 0, 0, .int (-1), []),
  (300, .ireturn, 301, 0, 0, .null, [])])
def t_X2_register : e_M := ((RX2, yX2_register, cX2_register, 1, (some FieldType.int)), [(0, .iconst 3, 1, 0, 0, .int 3, []),
  (1, .iload_n 0, 2, 0, 0, .null, []),
  (2, .bipush 7, 4, 0, 0, .int 7, []),
  (4, .iand, 5, 0, 0, .null, []),
  (5, .iadd, 6, 0, 0, .null, []),
  (6, .ireturn, 7, 0, 0, .null, [])])
def t_X2_fetch : e_M := ((RX2, yX2_fetch, cX2_fetch, 5, (some FieldType.boolean)), [(0, .aload_n 0, 1, 0, 0, .null, []),
  (1, .iload_n 3, 2, 3, 0, .null, []),
  (2, .iconst 1, 3, 0, 0, .int 1, []),
  (3, .invokevirtual 49, 6, 25, 2, .null, [2]),
  (6, .astore 4, 8, 4, 0, .null, []),
  (8, .aload 4, 10, 4, 0, .null, []),
  (10, .ifnonnull 5, 13, 15, 0, .null, []),
  (13, .iconst 0, 14, 0, 0, .int 0, []),
  (14, .ireturn, 15, 0, 0, .null, []),
  (15, .aload_n 1, 16, 1, 0, .null, []),
  (16, .iload_n 2, 17, 2, 0, .null, []),
  (17, .aload 4, 19, 4, 0, .null, []),
  (19, .getfield 53, 22, 1, 0, .null, []),
  (22, .iload_n 3, 23, 3, 0, .null, []),
  (23, .bipush 32, 25, 0, 0, .int 32, []),
  (25, .irem, 26, 0, 0, .null, []),
  (26, .iaload, 27, 0, 0, .null, []),
  (27, .iastore, 28, 0, 0, .null, []),
  (28, .iconst 1, 29, 0, 0, .int 1, []),
  (29, .ireturn, 30, 0, 0, .null, [])])
def t_X2_store : e_M := ((RX2, yX2_store, cX2_store, 4, (some FieldType.boolean)), [(0, .aload_n 0, 1, 0, 0, .null, []),
  (1, .iload_n 2, 2, 2, 0, .null, []),
  (2, .iconst 2, 3, 0, 0, .int 2, []),
  (3, .invokevirtual 49, 6, 25, 2, .null, [2]),
  (6, .astore_n 3, 7, 3, 0, .null, []),
  (7, .aload_n 3, 8, 3, 0, .null, []),
  (8, .ifnonnull 5, 11, 13, 0, .null, []),
  (11, .iconst 0, 12, 0, 0, .int 0, []),
  (12, .ireturn, 13, 0, 0, .null, []),
  (13, .aload_n 3, 14, 3, 0, .null, []),
  (14, .getfield 53, 17, 1, 0, .null, []),
  (17, .iload_n 2, 18, 2, 0, .null, []),
  (18, .bipush 32, 20, 0, 0, .int 32, []),
  (20, .irem, 21, 0, 0, .null, []),
  (21, .iload_n 1, 22, 1, 0, .null, []),
  (22, .iastore, 23, 0, 0, .null, []),
  (23, .iconst 1, 24, 0, 0, .int 1, []),
  (24, .ireturn, 25, 0, 0, .null, [])])
def t_X2_reach : e_M := ((RX2, yX2_reach, cX2_reach, 4, (some (FieldType.object "EnclaveMonitor$Page"))), [(0, .iload_n 1, 1, 1, 0, .null, []),
  (1, .sipush 1024, 4, 0, 0, .int 1024, []),
  (4, .invokestatic 37, 7, 53, 2, .null, []),
  (7, .ifCond .ne 5, 10, 12, 0, .null, []),
  (10, .aconst_null, 11, 0, 0, .null, []),
  (11, .areturn, 12, 0, 0, .null, []),
  (12, .aload_n 0, 13, 0, 0, .null, []),
  (13, .getfield 11, 16, 2, 0, .null, []),
  (16, .iload_n 1, 17, 1, 0, .null, []),
  (17, .bipush 32, 19, 0, 0, .int 32, []),
  (19, .idiv, 20, 0, 0, .null, []),
  (20, .aaload, 21, 0, 0, .null, []),
  (21, .astore_n 3, 22, 3, 0, .null, []),
  (22, .aload_n 3, 23, 3, 0, .null, []),
  (23, .ifnull 12, 26, 35, 0, .null, []),
  (26, .aload_n 3, 27, 3, 0, .null, []),
  (27, .getfield 68, 30, 1, 5, .null, []),
  (30, .iload_n 2, 31, 2, 0, .null, []),
  (31, .iand, 32, 0, 0, .null, []),
  (32, .ifCond .ne 13, 35, 45, 0, .null, []),
  (35, .aload_n 0, 36, 0, 0, .null, []),
  (36, .iload_n 1, 37, 1, 0, .null, []),
  (37, .bipush 32, 39, 0, 0, .int 32, []),
  (39, .idiv, 40, 0, 0, .null, []),
  (40, .putfield 24, 43, 2, 3, .int 0, []),
  (43, .aconst_null, 44, 0, 0, .null, []),
  (44, .areturn, 45, 0, 0, .null, []),
  (45, .aload_n 3, 46, 3, 0, .null, []),
  (46, .areturn, 47, 0, 0, .null, [])])
def t_X3_init : e_M := ((RX3, yX3_init, cX3_init, 3, (Option.none : Option FieldType)), [(0, .aload_n 0, 1, 0, 0, .null, []),
  (1, .invokespecial 3, 4, 1000, 0, .null, []),
  (4, .aload_n 0, 5, 0, 0, .null, []),
  (5, .new 9, 8, 0, 4, .null, [2, 2, 2, 0]),
  (8, .dup, 9, 0, 0, .null, []),
  (9, .invokespecial 11, 12, 0, 0, .null, []),
  (12, .putfield 12, 15, 3, 0, .null, []),
  (15, .aload_n 0, 16, 0, 0, .null, []),
  (16, .bipush 8, 18, 0, 0, .int 8, []),
  (18, .newarray .int, 20, 0, 0, .null, []),
  (20, .putfield 18, 23, 3, 1, .null, []),
  (23, .aload_n 0, 24, 0, 0, .null, []),
  (24, .bipush 8, 26, 0, 0, .int 8, []),
  (26, .newarray .int, 28, 0, 0, .null, []),
  (28, .putfield 22, 31, 3, 2, .null, []),
  (31, .aload_n 0, 32, 0, 0, .null, []),
  (32, .bipush 8, 34, 0, 0, .int 8, []),
  (34, .newarray .int, 36, 0, 0, .null, []),
  (36, .putfield 25, 39, 3, 3, .null, []),
  (39, .aload_n 0, 40, 0, 0, .null, []),
  (40, .bipush 16, 42, 0, 0, .int 16, []),
  (42, .newarray .int, 44, 0, 0, .null, []),
  (44, .putfield 28, 47, 3, 4, .null, []),
  (47, .aload_n 0, 48, 0, 0, .null, []),
  (48, .bipush 16, 50, 0, 0, .int 16, []),
  (50, .newarray .int, 52, 0, 0, .null, []),
  (52, .putfield 31, 55, 3, 5, .null, []),
  (55, .aload_n 0, 56, 0, 0, .null, []),
  (56, .lload_n 1, 57, 1, 0, .null, []),
  (57, .iconst 1, 58, 0, 0, .int 1, []),
  (58, .aload_n 0, 59, 0, 0, .null, []),
  (59, .getfield 18, 62, 3, 1, .null, []),
  (62, .invokevirtual 34, 65, 27, 3, .null, [3]),
  (65, .aload_n 0, 66, 0, 0, .null, []),
  (66, .lload_n 1, 67, 1, 0, .null, []),
  (67, .iconst 2, 68, 0, 0, .int 2, []),
  (68, .aload_n 0, 69, 0, 0, .null, []),
  (69, .getfield 22, 72, 3, 2, .null, []),
  (72, .invokevirtual 34, 75, 27, 3, .null, [3]),
  (75, .return_, 76, 0, 0, .null, [])])
def t_X3_derive : e_M := ((RX3, yX3_derive, cX3_derive, 5, (Option.none : Option FieldType)), [(0, .aload_n 0, 1, 0, 0, .null, []),
  (1, .getfield 12, 4, 3, 0, .null, []),
  (4, .invokevirtual 38, 7, 1, 0, .null, [0]),
  (7, .aload_n 0, 8, 0, 0, .null, []),
  (8, .getfield 12, 11, 3, 0, .null, []),
  (11, .lload_n 1, 12, 1, 0, .null, []),
  (12, .bipush 32, 14, 0, 0, .int 32, []),
  (14, .lushr, 15, 0, 0, .null, []),
  (15, .l2i, 16, 0, 0, .null, []),
  (16, .invokevirtual 41, 19, 2, 1, .null, [0]),
  (19, .aload_n 0, 20, 0, 0, .null, []),
  (20, .getfield 12, 23, 3, 0, .null, []),
  (23, .lload_n 1, 24, 1, 0, .null, []),
  (24, .l2i, 25, 0, 0, .null, []),
  (25, .invokevirtual 41, 28, 2, 1, .null, [0]),
  (28, .aload_n 0, 29, 0, 0, .null, []),
  (29, .getfield 12, 32, 3, 0, .null, []),
  (32, .iload_n 3, 33, 3, 0, .null, []),
  (33, .invokevirtual 41, 36, 2, 1, .null, [0]),
  (36, .aload_n 0, 37, 0, 0, .null, []),
  (37, .getfield 12, 40, 3, 0, .null, []),
  (40, .aload 4, 42, 4, 0, .null, []),
  (42, .iconst 0, 43, 0, 0, .int 0, []),
  (43, .invokevirtual 45, 46, 4, 2, .null, [0]),
  (46, .return_, 47, 0, 0, .null, [])])
def t_X3_sign : e_M := ((RX3, yX3_sign, cX3_sign, 5, (Option.none : Option FieldType)), [(0, .aload_n 0, 1, 0, 0, .null, []),
  (1, .ldc 49, 3, 0, 0, .int (909522486), []),
  (3, .invokevirtual 50, 6, 29, 1, .null, [3]),
  (6, .aload_n 0, 7, 0, 0, .null, []),
  (7, .getfield 12, 10, 3, 0, .null, []),
  (10, .aload_n 1, 11, 1, 0, .null, []),
  (11, .iload_n 2, 12, 2, 0, .null, []),
  (12, .invokevirtual 53, 15, 3, 2, .null, [0]),
  (15, .aload_n 0, 16, 0, 0, .null, []),
  (16, .getfield 12, 19, 3, 0, .null, []),
  (19, .aload_n 0, 20, 0, 0, .null, []),
  (20, .getfield 25, 23, 3, 3, .null, []),
  (23, .iconst 0, 24, 0, 0, .int 0, []),
  (24, .invokevirtual 45, 27, 4, 2, .null, [0]),
  (27, .aload_n 0, 28, 0, 0, .null, []),
  (28, .ldc 56, 30, 0, 0, .int (1549556828), []),
  (30, .invokevirtual 50, 33, 29, 1, .null, [3]),
  (33, .aload_n 0, 34, 0, 0, .null, []),
  (34, .getfield 12, 37, 3, 0, .null, []),
  (37, .aload_n 0, 38, 0, 0, .null, []),
  (38, .getfield 25, 41, 3, 3, .null, []),
  (41, .bipush 8, 43, 0, 0, .int 8, []),
  (43, .invokevirtual 53, 46, 3, 2, .null, [0]),
  (46, .aload_n 0, 47, 0, 0, .null, []),
  (47, .getfield 12, 50, 3, 0, .null, []),
  (50, .aload_n 3, 51, 3, 0, .null, []),
  (51, .iload 4, 53, 4, 0, .null, []),
  (53, .invokevirtual 45, 56, 4, 2, .null, [0]),
  (56, .return_, 57, 0, 0, .null, [])])
def t_X3_beginWithMark : e_M := ((RX3, yX3_beginWithMark, cX3_beginWithMark, 3, (Option.none : Option FieldType)), [(0, .aload_n 0, 1, 0, 0, .null, []),
  (1, .getfield 12, 4, 3, 0, .null, []),
  (4, .invokevirtual 38, 7, 1, 0, .null, [0]),
  (7, .iconst 0, 8, 0, 0, .int 0, []),
  (8, .istore_n 2, 9, 2, 0, .null, []),
  (9, .iload_n 2, 10, 2, 0, .null, []),
  (10, .bipush 16, 12, 0, 0, .int 16, []),
  (12, .if_icmp .ge 34, 15, 46, 0, .null, []),
  (15, .aload_n 0, 16, 0, 0, .null, []),
  (16, .getfield 12, 19, 3, 0, .null, []),
  (19, .iload_n 2, 20, 2, 0, .null, []),
  (20, .bipush 8, 22, 0, 0, .int 8, []),
  (22, .if_icmp .ge 14, 25, 36, 0, .null, []),
  (25, .aload_n 0, 26, 0, 0, .null, []),
  (26, .getfield 22, 29, 3, 2, .null, []),
  (29, .iload_n 2, 30, 2, 0, .null, []),
  (30, .iaload, 31, 0, 0, .null, []),
  (31, .iload_n 1, 32, 1, 0, .null, []),
  (32, .ixor, 33, 0, 0, .null, []),
  (33, .goto 4, 36, 37, 0, .null, []),
  (36, .iload_n 1, 37, 1, 0, .null, []),
  (37, .invokevirtual 41, 40, 2, 1, .null, [0]),
  (40, .iinc 2 1, 43, 2, 0, .int (1), []),
  (43, .goto (-34), 46, 9, 0, .null, []),
  (46, .return_, 47, 0, 0, .null, [])])
def t_X3_cover : e_M := ((RX3, yX3_cover, cX3_cover, 8, (Option.none : Option FieldType)), [(0, .iconst 0, 1, 0, 0, .int 0, []),
  (1, .istore 5, 3, 5, 0, .null, []),
  (3, .iload 5, 5, 5, 0, .null, []),
  (5, .iconst 2, 6, 0, 0, .int 2, []),
  (6, .if_icmp .ge 62, 9, 68, 0, .null, []),
  (9, .aload_n 0, 10, 0, 0, .null, []),
  (10, .iload 5, 12, 5, 0, .null, []),
  (12, .iconst 1, 13, 0, 0, .int 1, []),
  (13, .iadd, 14, 0, 0, .null, []),
  (14, .iload_n 3, 15, 3, 0, .null, []),
  (15, .iload 4, 17, 4, 0, .null, []),
  (17, .invokevirtual 57, 20, 31, 3, .null, [3]),
  (20, .iload_n 2, 21, 2, 0, .null, []),
  (21, .iload 5, 23, 5, 0, .null, []),
  (23, .bipush 16, 25, 0, 0, .int 16, []),
  (25, .imul, 26, 0, 0, .null, []),
  (26, .iadd, 27, 0, 0, .null, []),
  (27, .istore 6, 29, 6, 0, .null, []),
  (29, .iconst 0, 30, 0, 0, .int 0, []),
  (30, .istore 7, 32, 7, 0, .null, []),
  (32, .iload 7, 34, 7, 0, .null, []),
  (34, .bipush 16, 36, 0, 0, .int 16, []),
  (36, .if_icmp .ge 26, 39, 62, 0, .null, []),
  (39, .aload_n 1, 40, 1, 0, .null, []),
  (40, .iload 6, 42, 6, 0, .null, []),
  (42, .iload 7, 44, 7, 0, .null, []),
  (44, .iadd, 45, 0, 0, .null, []),
  (45, .dup2, 46, 0, 0, .null, []),
  (46, .iaload, 47, 0, 0, .null, []),
  (47, .aload_n 0, 48, 0, 0, .null, []),
  (48, .getfield 31, 51, 3, 5, .null, []),
  (51, .iload 7, 53, 7, 0, .null, []),
  (53, .iaload, 54, 0, 0, .null, []),
  (54, .ixor, 55, 0, 0, .null, []),
  (55, .iastore, 56, 0, 0, .null, []),
  (56, .iinc 7 1, 59, 7, 0, .int (1), []),
  (59, .goto (-27), 62, 32, 0, .null, []),
  (62, .iinc 5 1, 65, 5, 0, .int (1), []),
  (65, .goto (-62), 68, 3, 0, .null, []),
  (68, .return_, 69, 0, 0, .null, [])])
def t_X3_makeBlock : e_M := ((RX3, yX3_makeBlock, cX3_makeBlock, 5, (Option.none : Option FieldType)), [(0, .getstatic 61, 3, 2, 0, .null, []),
  (3, .iconst 0, 4, 0, 0, .int 0, []),
  (4, .aload_n 0, 5, 0, 0, .null, []),
  (5, .getfield 28, 8, 3, 4, .null, []),
  (8, .iconst 0, 9, 0, 0, .int 0, []),
  (9, .iconst 4, 10, 0, 0, .int 4, []),
  (10, .invokestatic 64, 13, 1001, 0, .null, []),
  (13, .aload_n 0, 14, 0, 0, .null, []),
  (14, .getfield 18, 17, 3, 1, .null, []),
  (17, .iconst 0, 18, 0, 0, .int 0, []),
  (18, .aload_n 0, 19, 0, 0, .null, []),
  (19, .getfield 28, 22, 3, 4, .null, []),
  (22, .iconst 4, 23, 0, 0, .int 4, []),
  (23, .bipush 8, 25, 0, 0, .int 8, []),
  (25, .invokestatic 64, 28, 1001, 0, .null, []),
  (28, .aload_n 0, 29, 0, 0, .null, []),
  (29, .getfield 28, 32, 3, 4, .null, []),
  (32, .bipush 12, 34, 0, 0, .int 12, []),
  (34, .iload_n 1, 35, 1, 0, .null, []),
  (35, .iastore, 36, 0, 0, .null, []),
  (36, .aload_n 0, 37, 0, 0, .null, []),
  (37, .getfield 28, 40, 3, 4, .null, []),
  (40, .bipush 13, 42, 0, 0, .int 13, []),
  (42, .iconst 0, 43, 0, 0, .int 0, []),
  (43, .iastore, 44, 0, 0, .null, []),
  (44, .aload_n 0, 45, 0, 0, .null, []),
  (45, .getfield 28, 48, 3, 4, .null, []),
  (48, .bipush 14, 50, 0, 0, .int 14, []),
  (50, .iload_n 2, 51, 2, 0, .null, []),
  (51, .iastore, 52, 0, 0, .null, []),
  (52, .aload_n 0, 53, 0, 0, .null, []),
  (53, .getfield 28, 56, 3, 4, .null, []),
  (56, .bipush 15, 58, 0, 0, .int 15, []),
  (58, .iload_n 3, 59, 3, 0, .null, []),
  (59, .iastore, 60, 0, 0, .null, []),
  (60, .aload_n 0, 61, 0, 0, .null, []),
  (61, .getfield 28, 64, 3, 4, .null, []),
  (64, .iconst 0, 65, 0, 0, .int 0, []),
  (65, .aload_n 0, 66, 0, 0, .null, []),
  (66, .getfield 31, 69, 3, 5, .null, []),
  (69, .iconst 0, 70, 0, 0, .int 0, []),
  (70, .bipush 16, 72, 0, 0, .int 16, []),
  (72, .invokestatic 64, 75, 1001, 0, .null, []),
  (75, .iconst 0, 76, 0, 0, .int 0, []),
  (76, .istore 4, 78, 4, 0, .null, []),
  (78, .iload 4, 80, 4, 0, .null, []),
  (80, .bipush 10, 82, 0, 0, .int 10, []),
  (82, .if_icmp .ge 93, 85, 175, 0, .null, []),
  (85, .aload_n 0, 86, 0, 0, .null, []),
  (86, .iconst 0, 87, 0, 0, .int 0, []),
  (87, .iconst 4, 88, 0, 0, .int 4, []),
  (88, .bipush 8, 90, 0, 0, .int 8, []),
  (90, .bipush 12, 92, 0, 0, .int 12, []),
  (92, .invokevirtual 70, 95, 32, 4, .null, [3]),
  (95, .aload_n 0, 96, 0, 0, .null, []),
  (96, .iconst 1, 97, 0, 0, .int 1, []),
  (97, .iconst 5, 98, 0, 0, .int 5, []),
  (98, .bipush 9, 100, 0, 0, .int 9, []),
  (100, .bipush 13, 102, 0, 0, .int 13, []),
  (102, .invokevirtual 70, 105, 32, 4, .null, [3]),
  (105, .aload_n 0, 106, 0, 0, .null, []),
  (106, .iconst 2, 107, 0, 0, .int 2, []),
  (107, .bipush 6, 109, 0, 0, .int 6, []),
  (109, .bipush 10, 111, 0, 0, .int 10, []),
  (111, .bipush 14, 113, 0, 0, .int 14, []),
  (113, .invokevirtual 70, 116, 32, 4, .null, [3]),
  (116, .aload_n 0, 117, 0, 0, .null, []),
  (117, .iconst 3, 118, 0, 0, .int 3, []),
  (118, .bipush 7, 120, 0, 0, .int 7, []),
  (120, .bipush 11, 122, 0, 0, .int 11, []),
  (122, .bipush 15, 124, 0, 0, .int 15, []),
  (124, .invokevirtual 70, 127, 32, 4, .null, [3]),
  (127, .aload_n 0, 128, 0, 0, .null, []),
  (128, .iconst 0, 129, 0, 0, .int 0, []),
  (129, .iconst 5, 130, 0, 0, .int 5, []),
  (130, .bipush 10, 132, 0, 0, .int 10, []),
  (132, .bipush 15, 134, 0, 0, .int 15, []),
  (134, .invokevirtual 70, 137, 32, 4, .null, [3]),
  (137, .aload_n 0, 138, 0, 0, .null, []),
  (138, .iconst 1, 139, 0, 0, .int 1, []),
  (139, .bipush 6, 141, 0, 0, .int 6, []),
  (141, .bipush 11, 143, 0, 0, .int 11, []),
  (143, .bipush 12, 145, 0, 0, .int 12, []),
  (145, .invokevirtual 70, 148, 32, 4, .null, [3]),
  (148, .aload_n 0, 149, 0, 0, .null, []),
  (149, .iconst 2, 150, 0, 0, .int 2, []),
  (150, .bipush 7, 152, 0, 0, .int 7, []),
  (152, .bipush 8, 154, 0, 0, .int 8, []),
  (154, .bipush 13, 156, 0, 0, .int 13, []),
  (156, .invokevirtual 70, 159, 32, 4, .null, [3]),
  (159, .aload_n 0, 160, 0, 0, .null, []),
  (160, .iconst 3, 161, 0, 0, .int 3, []),
  (161, .iconst 4, 162, 0, 0, .int 4, []),
  (162, .bipush 9, 164, 0, 0, .int 9, []),
  (164, .bipush 14, 166, 0, 0, .int 14, []),
  (166, .invokevirtual 70, 169, 32, 4, .null, [3]),
  (169, .iinc 4 1, 172, 4, 0, .int (1), []),
  (172, .goto (-94), 175, 78, 0, .null, []),
  (175, .iconst 0, 176, 0, 0, .int 0, []),
  (176, .istore 4, 178, 4, 0, .null, []),
  (178, .iload 4, 180, 4, 0, .null, []),
  (180, .bipush 16, 182, 0, 0, .int 16, []),
  (182, .if_icmp .ge 26, 185, 208, 0, .null, []),
  (185, .aload_n 0, 186, 0, 0, .null, []),
  (186, .getfield 31, 189, 3, 5, .null, []),
  (189, .iload 4, 191, 4, 0, .null, []),
  (191, .dup2, 192, 0, 0, .null, []),
  (192, .iaload, 193, 0, 0, .null, []),
  (193, .aload_n 0, 194, 0, 0, .null, []),
  (194, .getfield 28, 197, 3, 4, .null, []),
  (197, .iload 4, 199, 4, 0, .null, []),
  (199, .iaload, 200, 0, 0, .null, []),
  (200, .iadd, 201, 0, 0, .null, []),
  (201, .iastore, 202, 0, 0, .null, []),
  (202, .iinc 4 1, 205, 4, 0, .int (1), []),
  (205, .goto (-27), 208, 178, 0, .null, []),
  (208, .return_, 209, 0, 0, .null, [])])
def t_X3_mixQuarter : e_M := ((RX3, yX3_mixQuarter, cX3_mixQuarter, 5, (Option.none : Option FieldType)), [(0, .aload_n 0, 1, 0, 0, .null, []),
  (1, .getfield 31, 4, 3, 5, .null, []),
  (4, .iload_n 1, 5, 1, 0, .null, []),
  (5, .dup2, 6, 0, 0, .null, []),
  (6, .iaload, 7, 0, 0, .null, []),
  (7, .aload_n 0, 8, 0, 0, .null, []),
  (8, .getfield 31, 11, 3, 5, .null, []),
  (11, .iload_n 2, 12, 2, 0, .null, []),
  (12, .iaload, 13, 0, 0, .null, []),
  (13, .iadd, 14, 0, 0, .null, []),
  (14, .iastore, 15, 0, 0, .null, []),
  (15, .aload_n 0, 16, 0, 0, .null, []),
  (16, .getfield 31, 19, 3, 5, .null, []),
  (19, .iload 4, 21, 4, 0, .null, []),
  (21, .aload_n 0, 22, 0, 0, .null, []),
  (22, .getfield 31, 25, 3, 5, .null, []),
  (25, .iload 4, 27, 4, 0, .null, []),
  (27, .iaload, 28, 0, 0, .null, []),
  (28, .aload_n 0, 29, 0, 0, .null, []),
  (29, .getfield 31, 32, 3, 5, .null, []),
  (32, .iload_n 1, 33, 1, 0, .null, []),
  (33, .iaload, 34, 0, 0, .null, []),
  (34, .ixor, 35, 0, 0, .null, []),
  (35, .bipush 16, 37, 0, 0, .int 16, []),
  (37, .invokestatic 74, 40, 33, 2, .null, []),
  (40, .iastore, 41, 0, 0, .null, []),
  (41, .aload_n 0, 42, 0, 0, .null, []),
  (42, .getfield 31, 45, 3, 5, .null, []),
  (45, .iload_n 3, 46, 3, 0, .null, []),
  (46, .dup2, 47, 0, 0, .null, []),
  (47, .iaload, 48, 0, 0, .null, []),
  (48, .aload_n 0, 49, 0, 0, .null, []),
  (49, .getfield 31, 52, 3, 5, .null, []),
  (52, .iload 4, 54, 4, 0, .null, []),
  (54, .iaload, 55, 0, 0, .null, []),
  (55, .iadd, 56, 0, 0, .null, []),
  (56, .iastore, 57, 0, 0, .null, []),
  (57, .aload_n 0, 58, 0, 0, .null, []),
  (58, .getfield 31, 61, 3, 5, .null, []),
  (61, .iload_n 2, 62, 2, 0, .null, []),
  (62, .aload_n 0, 63, 0, 0, .null, []),
  (63, .getfield 31, 66, 3, 5, .null, []),
  (66, .iload_n 2, 67, 2, 0, .null, []),
  (67, .iaload, 68, 0, 0, .null, []),
  (68, .aload_n 0, 69, 0, 0, .null, []),
  (69, .getfield 31, 72, 3, 5, .null, []),
  (72, .iload_n 3, 73, 3, 0, .null, []),
  (73, .iaload, 74, 0, 0, .null, []),
  (74, .ixor, 75, 0, 0, .null, []),
  (75, .bipush 12, 77, 0, 0, .int 12, []),
  (77, .invokestatic 74, 80, 33, 2, .null, []),
  (80, .iastore, 81, 0, 0, .null, []),
  (81, .aload_n 0, 82, 0, 0, .null, []),
  (82, .getfield 31, 85, 3, 5, .null, []),
  (85, .iload_n 1, 86, 1, 0, .null, []),
  (86, .dup2, 87, 0, 0, .null, []),
  (87, .iaload, 88, 0, 0, .null, []),
  (88, .aload_n 0, 89, 0, 0, .null, []),
  (89, .getfield 31, 92, 3, 5, .null, []),
  (92, .iload_n 2, 93, 2, 0, .null, []),
  (93, .iaload, 94, 0, 0, .null, []),
  (94, .iadd, 95, 0, 0, .null, []),
  (95, .iastore, 96, 0, 0, .null, []),
  (96, .aload_n 0, 97, 0, 0, .null, []),
  (97, .getfield 31, 100, 3, 5, .null, []),
  (100, .iload 4, 102, 4, 0, .null, []),
  (102, .aload_n 0, 103, 0, 0, .null, []),
  (103, .getfield 31, 106, 3, 5, .null, []),
  (106, .iload 4, 108, 4, 0, .null, []),
  (108, .iaload, 109, 0, 0, .null, []),
  (109, .aload_n 0, 110, 0, 0, .null, []),
  (110, .getfield 31, 113, 3, 5, .null, []),
  (113, .iload_n 1, 114, 1, 0, .null, []),
  (114, .iaload, 115, 0, 0, .null, []),
  (115, .ixor, 116, 0, 0, .null, []),
  (116, .bipush 8, 118, 0, 0, .int 8, []),
  (118, .invokestatic 74, 121, 33, 2, .null, []),
  (121, .iastore, 122, 0, 0, .null, []),
  (122, .aload_n 0, 123, 0, 0, .null, []),
  (123, .getfield 31, 126, 3, 5, .null, []),
  (126, .iload_n 3, 127, 3, 0, .null, []),
  (127, .dup2, 128, 0, 0, .null, []),
  (128, .iaload, 129, 0, 0, .null, []),
  (129, .aload_n 0, 130, 0, 0, .null, []),
  (130, .getfield 31, 133, 3, 5, .null, []),
  (133, .iload 4, 135, 4, 0, .null, []),
  (135, .iaload, 136, 0, 0, .null, []),
  (136, .iadd, 137, 0, 0, .null, []),
  (137, .iastore, 138, 0, 0, .null, []),
  (138, .aload_n 0, 139, 0, 0, .null, []),
  (139, .getfield 31, 142, 3, 5, .null, []),
  (142, .iload_n 2, 143, 2, 0, .null, []),
  (143, .aload_n 0, 144, 0, 0, .null, []),
  (144, .getfield 31, 147, 3, 5, .null, []),
  (147, .iload_n 2, 148, 2, 0, .null, []),
  (148, .iaload, 149, 0, 0, .null, []),
  (149, .aload_n 0, 150, 0, 0, .null, []),
  (150, .getfield 31, 153, 3, 5, .null, []),
  (153, .iload_n 3, 154, 3, 0, .null, []),
  (154, .iaload, 155, 0, 0, .null, []),
  (155, .ixor, 156, 0, 0, .null, []),
  (156, .bipush 7, 158, 0, 0, .int 7, []),
  (158, .invokestatic 74, 161, 33, 2, .null, []),
  (161, .iastore, 162, 0, 0, .null, []),
  (162, .return_, 163, 0, 0, .null, [])])
def t_X3_turnLeft : e_M := ((RX3, yX3_turnLeft, cX3_turnLeft, 2, (some FieldType.int)), [(0, .iload_n 0, 1, 0, 0, .null, []),
  (1, .iload_n 1, 2, 1, 0, .null, []),
  (2, .ishl, 3, 0, 0, .null, []),
  (3, .iload_n 0, 4, 0, 0, .null, []),
  (4, .bipush 32, 6, 0, 0, .int 32, []),
  (6, .iload_n 1, 7, 1, 0, .null, []),
  (7, .isub, 8, 0, 0, .null, []),
  (8, .iushr, 9, 0, 0, .null, []),
  (9, .ior, 10, 0, 0, .null, []),
  (10, .ireturn, 11, 0, 0, .null, [])])
def t_X4_init : e_M := ((RX4, yX4_init, cX4_init, 6, (Option.none : Option FieldType)), [(0, .aload_n 0, 1, 0, 0, .null, []),
  (1, .invokespecial 3, 4, 1000, 0, .null, []),
  (4, .aload_n 0, 5, 0, 0, .null, []),
  (5, .bipush 64, 7, 0, 0, .int 64, []),
  (7, .newarray .int, 9, 0, 0, .null, []),
  (9, .putfield 9, 12, 4, 1, .null, []),
  (12, .aload_n 0, 13, 0, 0, .null, []),
  (13, .bipush 8, 15, 0, 0, .int 8, []),
  (15, .newarray .int, 17, 0, 0, .null, []),
  (17, .putfield 13, 20, 4, 2, .null, []),
  (20, .aload_n 0, 21, 0, 0, .null, []),
  (21, .new 16, 24, 0, 4, .null, [2, 2, 2, 0]),
  (24, .dup, 25, 0, 0, .null, []),
  (25, .invokespecial 18, 28, 0, 0, .null, []),
  (28, .putfield 19, 31, 4, 3, .null, []),
  (31, .aload_n 0, 32, 0, 0, .null, []),
  (32, .new 23, 35, 2, 5, .null, [2, 0, 0, 0, 0]),
  (35, .dup, 36, 0, 0, .null, []),
  (36, .invokespecial 25, 39, 17, 0, .null, []),
  (39, .putfield 26, 42, 4, 5, .null, []),
  (42, .iload_n 1, 43, 1, 0, .null, []),
  (43, .bipush 8, 45, 0, 0, .int 8, []),
  (45, .if_icmp .lt 13, 48, 58, 0, .null, []),
  (48, .iload_n 1, 49, 1, 0, .null, []),
  (49, .bipush 40, 51, 0, 0, .int 40, []),
  (51, .if_icmp .gt 7, 54, 58, 0, .null, []),
  (54, .iload_n 1, 55, 1, 0, .null, []),
  (55, .goto 5, 58, 60, 0, .null, []),
  (58, .bipush 16, 60, 0, 0, .int 16, []),
  (60, .istore 4, 62, 4, 0, .null, []),
  (62, .aload_n 0, 63, 0, 0, .null, []),
  (63, .iload 4, 65, 4, 0, .null, []),
  (65, .anewarray 30, 68, 0, 0, .null, []),
  (68, .putfield 32, 71, 4, 0, .null, []),
  (71, .iconst 0, 72, 0, 0, .int 0, []),
  (72, .istore 5, 74, 5, 0, .null, []),
  (74, .iload 5, 76, 5, 0, .null, []),
  (76, .iload 4, 78, 4, 0, .null, []),
  (78, .if_icmp .ge 23, 81, 101, 0, .null, []),
  (81, .aload_n 0, 82, 0, 0, .null, []),
  (82, .getfield 32, 85, 4, 0, .null, []),
  (85, .iload 5, 87, 5, 0, .null, []),
  (87, .new 30, 90, 1, 8, .null, [2, 2, 0, 0, 0, 0, 0, 0]),
  (90, .dup, 91, 0, 0, .null, []),
  (91, .invokespecial 36, 94, 9, 0, .null, []),
  (94, .aastore, 95, 0, 0, .null, []),
  (95, .iinc 5 1, 98, 5, 0, .int (1), []),
  (98, .goto (-24), 101, 74, 0, .null, []),
  (101, .aload_n 0, 102, 0, 0, .null, []),
  (102, .new 37, 105, 3, 6, .null, [2, 2, 2, 2, 2, 2]),
  (105, .dup, 106, 0, 0, .null, []),
  (106, .lload_n 2, 107, 2, 0, .null, []),
  (107, .invokespecial 39, 110, 26, 1, .null, []),
  (110, .putfield 42, 113, 4, 4, .null, []),
  (113, .return_, 114, 0, 0, .null, [])])
def t_X4_poke : e_M := ((RX4, yX4_poke, cX4_poke, 3, (Option.none : Option FieldType)), [(0, .iload_n 1, 1, 1, 0, .null, []),
  (1, .bipush 64, 3, 0, 0, .int 64, []),
  (3, .invokestatic 46, 6, 53, 2, .null, []),
  (6, .ifCond .ne 13, 9, 19, 0, .null, []),
  (12, .dup, 13, 0, 0, .null, []),
  (19, .aload_n 0, 20, 0, 0, .null, []),
  (20, .getfield 9, 23, 4, 1, .null, []),
  (23, .iload_n 1, 24, 1, 0, .null, []),
  (24, .iload_n 2, 25, 2, 0, .null, []),
  (25, .iastore, 26, 0, 0, .null, []),
  (26, .return_, 27, 0, 0, .null, [])])
def t_X4_buffer : e_M := ((RX4, yX4_buffer, cX4_buffer, 2, (some FieldType.int)), [(0, .iload_n 1, 1, 1, 0, .null, []),
  (1, .bipush 64, 3, 0, 0, .int 64, []),
  (3, .invokestatic 46, 6, 53, 2, .null, []),
  (6, .ifCond .ne 13, 9, 19, 0, .null, []),
  (12, .dup, 13, 0, 0, .null, []),
  (19, .aload_n 0, 20, 0, 0, .null, []),
  (20, .getfield 9, 23, 4, 1, .null, []),
  (23, .iload_n 1, 24, 1, 0, .null, []),
  (24, .iaload, 25, 0, 0, .null, []),
  (25, .ireturn, 26, 0, 0, .null, [])])
def t_X4_create : e_M := ((RX4, yX4_create, cX4_create, 2, (some FieldType.int)), [(0, .aload_n 0, 1, 0, 0, .null, []),
  (1, .iload_n 1, 2, 1, 0, .null, []),
  (2, .iconst 0, 3, 0, 0, .int 0, []),
  (3, .invokevirtual 57, 6, 54, 2, .null, [4]),
  (6, .ifCond .ne 5, 9, 11, 0, .null, []),
  (9, .iconst 1, 10, 0, 0, .int 1, []),
  (10, .ireturn, 11, 0, 0, .null, []),
  (11, .aload_n 0, 12, 0, 0, .null, []),
  (12, .dup, 13, 0, 0, .null, []),
  (13, .getfield 60, 16, 4, 10, .null, []),
  (16, .iconst 1, 17, 0, 0, .int 1, []),
  (17, .iadd, 18, 0, 0, .null, []),
  (18, .putfield 60, 21, 4, 10, .int 0, []),
  (21, .aload_n 0, 22, 0, 0, .null, []),
  (22, .getfield 32, 25, 4, 0, .null, []),
  (25, .iload_n 1, 26, 1, 0, .null, []),
  (26, .aaload, 27, 0, 0, .null, []),
  (27, .iconst 1, 28, 0, 0, .int 1, []),
  (28, .putfield 64, 31, 1, 2, .int 0, []),
  (31, .aload_n 0, 32, 0, 0, .null, []),
  (32, .getfield 32, 35, 4, 0, .null, []),
  (35, .iload_n 1, 36, 1, 0, .null, []),
  (36, .aaload, 37, 0, 0, .null, []),
  (37, .iconst 0, 38, 0, 0, .int 0, []),
  (38, .putfield 67, 41, 1, 7, .int 0, []),
  (41, .aload_n 0, 42, 0, 0, .null, []),
  (42, .getfield 32, 45, 4, 0, .null, []),
  (45, .iload_n 1, 46, 1, 0, .null, []),
  (46, .aaload, 47, 0, 0, .null, []),
  (47, .aload_n 0, 48, 0, 0, .null, []),
  (48, .getfield 60, 51, 4, 10, .null, []),
  (51, .putfield 70, 54, 1, 6, .int 0, []),
  (54, .iconst 0, 55, 0, 0, .int 0, []),
  (55, .ireturn, 56, 0, 0, .null, [])])
def t_X4_thread : e_M := ((RX4, yX4_thread, cX4_thread, 6, (some FieldType.int)), [(0, .aload_n 0, 1, 0, 0, .null, []),
  (1, .iload_n 1, 2, 1, 0, .null, []),
  (2, .iload_n 2, 3, 2, 0, .null, []),
  (3, .invokevirtual 73, 6, 59, 2, .null, [4]),
  (6, .istore 4, 8, 4, 0, .null, []),
  (8, .iload 4, 10, 4, 0, .null, []),
  (10, .ifCond .eq 6, 13, 16, 0, .null, []),
  (13, .iload 4, 15, 4, 0, .null, []),
  (15, .ireturn, 16, 0, 0, .null, []),
  (16, .iload_n 3, 17, 3, 0, .null, []),
  (17, .sipush 1024, 20, 0, 0, .int 1024, []),
  (20, .invokestatic 46, 23, 53, 2, .null, []),
  (23, .ifCond .ne 5, 26, 28, 0, .null, []),
  (26, .iconst 3, 27, 0, 0, .int 3, []),
  (27, .ireturn, 28, 0, 0, .null, []),
  (28, .aload_n 0, 29, 0, 0, .null, []),
  (29, .getfield 32, 32, 4, 0, .null, []),
  (32, .iload_n 2, 33, 2, 0, .null, []),
  (33, .aaload, 34, 0, 0, .null, []),
  (34, .astore 5, 36, 5, 0, .null, []),
  (36, .aload 5, 38, 5, 0, .null, []),
  (38, .iconst 2, 39, 0, 0, .int 2, []),
  (39, .iload_n 1, 40, 1, 0, .null, []),
  (40, .invokevirtual 77, 43, 10, 2, .null, [1]),
  (43, .aload 5, 45, 5, 0, .null, []),
  (45, .getfield 81, 48, 1, 0, .null, []),
  (48, .iconst 0, 49, 0, 0, .int 0, []),
  (49, .iload_n 3, 50, 3, 0, .null, []),
  (50, .iastore, 51, 0, 0, .null, []),
  (51, .aload_n 0, 52, 0, 0, .null, []),
  (52, .aload_n 0, 53, 0, 0, .null, []),
  (53, .getfield 32, 56, 4, 0, .null, []),
  (56, .iload_n 1, 57, 1, 0, .null, []),
  (57, .aaload, 58, 0, 0, .null, []),
  (58, .aload 5, 60, 5, 0, .null, []),
  (60, .iload_n 3, 61, 3, 0, .null, []),
  (61, .invokevirtual 84, 64, 60, 3, .null, [4]),
  (64, .iconst 0, 65, 0, 0, .int 0, []),
  (65, .ireturn, 66, 0, 0, .null, [])])
def t_X4_data : e_M := ((RX4, yX4_data, cX4_data, 7, (some FieldType.int)), [(0, .aload_n 0, 1, 0, 0, .null, []),
  (1, .iload_n 1, 2, 1, 0, .null, []),
  (2, .iload_n 2, 3, 2, 0, .null, []),
  (3, .invokevirtual 73, 6, 59, 2, .null, [4]),
  (6, .istore 5, 8, 5, 0, .null, []),
  (8, .iload 5, 10, 5, 0, .null, []),
  (10, .ifCond .eq 6, 13, 16, 0, .null, []),
  (13, .iload 5, 15, 5, 0, .null, []),
  (15, .ireturn, 16, 0, 0, .null, []),
  (16, .iload_n 3, 17, 3, 0, .null, []),
  (17, .bipush 32, 19, 0, 0, .int 32, []),
  (19, .invokestatic 46, 22, 53, 2, .null, []),
  (22, .ifCond .eq 24, 25, 46, 0, .null, []),
  (25, .iload 4, 27, 4, 0, .null, []),
  (27, .ifCond .lt 19, 30, 46, 0, .null, []),
  (30, .iload 4, 32, 4, 0, .null, []),
  (32, .bipush 7, 34, 0, 0, .int 7, []),
  (34, .if_icmp .gt 12, 37, 46, 0, .null, []),
  (37, .aload_n 0, 38, 0, 0, .null, []),
  (38, .iload_n 1, 39, 1, 0, .null, []),
  (39, .iload_n 3, 40, 3, 0, .null, []),
  (40, .invokevirtual 88, 43, 58, 2, .null, [4]),
  (43, .ifCond .eq 5, 46, 48, 0, .null, []),
  (46, .iconst 3, 47, 0, 0, .int 3, []),
  (47, .ireturn, 48, 0, 0, .null, []),
  (48, .aload_n 0, 49, 0, 0, .null, []),
  (49, .getfield 32, 52, 4, 0, .null, []),
  (52, .iload_n 2, 53, 2, 0, .null, []),
  (53, .aaload, 54, 0, 0, .null, []),
  (54, .astore 6, 56, 6, 0, .null, []),
  (56, .aload 6, 58, 6, 0, .null, []),
  (58, .iconst 3, 59, 0, 0, .int 3, []),
  (59, .iload_n 1, 60, 1, 0, .null, []),
  (60, .invokevirtual 77, 63, 10, 2, .null, [1]),
  (63, .aload 6, 65, 6, 0, .null, []),
  (65, .iload_n 3, 66, 3, 0, .null, []),
  (66, .putfield 91, 69, 1, 4, .int 0, []),
  (69, .aload 6, 71, 6, 0, .null, []),
  (71, .iload 4, 73, 4, 0, .null, []),
  (73, .putfield 94, 76, 1, 5, .int 0, []),
  (76, .aload_n 0, 77, 0, 0, .null, []),
  (77, .getfield 9, 80, 4, 1, .null, []),
  (80, .iconst 0, 81, 0, 0, .int 0, []),
  (81, .aload 6, 83, 6, 0, .null, []),
  (83, .getfield 81, 86, 1, 0, .null, []),
  (86, .iconst 0, 87, 0, 0, .int 0, []),
  (87, .bipush 32, 89, 0, 0, .int 32, []),
  (89, .invokestatic 97, 92, 1001, 0, .null, []),
  (92, .aload_n 0, 93, 0, 0, .null, []),
  (93, .aload_n 0, 94, 0, 0, .null, []),
  (94, .getfield 32, 97, 4, 0, .null, []),
  (97, .iload_n 1, 98, 1, 0, .null, []),
  (98, .aaload, 99, 0, 0, .null, []),
  (99, .aload 6, 101, 6, 0, .null, []),
  (101, .iload_n 3, 102, 3, 0, .null, []),
  (102, .invokevirtual 84, 105, 60, 3, .null, [4]),
  (105, .iconst 0, 106, 0, 0, .int 0, []),
  (106, .ireturn, 107, 0, 0, .null, [])])
def t_X4_versions : e_M := ((RX4, yX4_versions, cX4_versions, 2, (some FieldType.int)), [(0, .aload_n 0, 1, 0, 0, .null, []),
  (1, .iload_n 1, 2, 1, 0, .null, []),
  (2, .iconst 0, 3, 0, 0, .int 0, []),
  (3, .invokevirtual 57, 6, 54, 2, .null, [4]),
  (6, .ifCond .ne 5, 9, 11, 0, .null, []),
  (9, .iconst 1, 10, 0, 0, .int 1, []),
  (10, .ireturn, 11, 0, 0, .null, []),
  (11, .aload_n 0, 12, 0, 0, .null, []),
  (12, .getfield 32, 15, 4, 0, .null, []),
  (15, .iload_n 1, 16, 1, 0, .null, []),
  (16, .aaload, 17, 0, 0, .null, []),
  (17, .iconst 4, 18, 0, 0, .int 4, []),
  (18, .putfield 64, 21, 1, 2, .int 0, []),
  (21, .iconst 0, 22, 0, 0, .int 0, []),
  (22, .ireturn, 23, 0, 0, .null, [])])
def t_X4_finalise : e_M := ((RX4, yX4_finalise, cX4_finalise, 3, (some FieldType.int)), [(0, .aload_n 0, 1, 0, 0, .null, []),
  (1, .iload_n 1, 2, 1, 0, .null, []),
  (2, .iconst 1, 3, 0, 0, .int 1, []),
  (3, .invokevirtual 57, 6, 54, 2, .null, [4]),
  (6, .ifCond .ne 5, 9, 11, 0, .null, []),
  (9, .iconst 1, 10, 0, 0, .int 1, []),
  (10, .ireturn, 11, 0, 0, .null, []),
  (11, .aload_n 0, 12, 0, 0, .null, []),
  (12, .iload_n 1, 13, 1, 0, .null, []),
  (13, .invokevirtual 103, 16, 55, 1, .null, [4]),
  (16, .ifCond .eq 5, 19, 21, 0, .null, []),
  (19, .iconst 2, 20, 0, 0, .int 2, []),
  (20, .ireturn, 21, 0, 0, .null, []),
  (21, .aload_n 0, 22, 0, 0, .null, []),
  (22, .getfield 32, 25, 4, 0, .null, []),
  (25, .iload_n 1, 26, 1, 0, .null, []),
  (26, .aaload, 27, 0, 0, .null, []),
  (27, .astore_n 2, 28, 2, 0, .null, []),
  (28, .aload_n 2, 29, 2, 0, .null, []),
  (29, .iconst 1, 30, 0, 0, .int 1, []),
  (30, .putfield 67, 33, 1, 7, .int 0, []),
  (33, .aload_n 0, 34, 0, 0, .null, []),
  (34, .getfield 19, 37, 4, 3, .null, []),
  (37, .invokevirtual 107, 40, 1, 0, .null, [0]),
  (40, .aload_n 0, 41, 0, 0, .null, []),
  (41, .getfield 19, 44, 4, 3, .null, []),
  (44, .aload_n 2, 45, 2, 0, .null, []),
  (45, .getfield 110, 48, 1, 1, .null, []),
  (48, .bipush 8, 50, 0, 0, .int 8, []),
  (50, .invokevirtual 113, 53, 3, 2, .null, [0]),
  (53, .aload_n 0, 54, 0, 0, .null, []),
  (54, .getfield 19, 57, 4, 3, .null, []),
  (57, .iconst (-1), 58, 0, 0, .int (-1), []),
  (58, .invokevirtual 117, 61, 2, 1, .null, [0]),
  (61, .aload_n 0, 62, 0, 0, .null, []),
  (62, .getfield 19, 65, 4, 3, .null, []),
  (65, .aload_n 2, 66, 2, 0, .null, []),
  (66, .getfield 110, 69, 1, 1, .null, []),
  (69, .iconst 0, 70, 0, 0, .int 0, []),
  (70, .invokevirtual 121, 73, 4, 2, .null, [0]),
  (73, .iconst 0, 74, 0, 0, .int 0, []),
  (74, .ireturn, 75, 0, 0, .null, [])])
def t_X4_stop : e_M := ((RX4, yX4_stop, cX4_stop, 2, (some FieldType.int)), [(0, .aload_n 0, 1, 0, 0, .null, []),
  (1, .iload_n 1, 2, 1, 0, .null, []),
  (2, .iconst 1, 3, 0, 0, .int 1, []),
  (3, .invokevirtual 57, 6, 54, 2, .null, [4]),
  (6, .ifCond .ne 5, 9, 11, 0, .null, []),
  (9, .iconst 1, 10, 0, 0, .int 1, []),
  (10, .ireturn, 11, 0, 0, .null, []),
  (11, .aload_n 0, 12, 0, 0, .null, []),
  (12, .iload_n 1, 13, 1, 0, .null, []),
  (13, .invokevirtual 103, 16, 55, 1, .null, [4]),
  (16, .iconst 2, 17, 0, 0, .int 2, []),
  (17, .if_icmp .ne 5, 20, 22, 0, .null, []),
  (20, .iconst 2, 21, 0, 0, .int 2, []),
  (21, .ireturn, 22, 0, 0, .null, []),
  (22, .aload_n 0, 23, 0, 0, .null, []),
  (23, .getfield 32, 26, 4, 0, .null, []),
  (26, .iload_n 1, 27, 1, 0, .null, []),
  (27, .aaload, 28, 0, 0, .null, []),
  (28, .iconst 2, 29, 0, 0, .int 2, []),
  (29, .putfield 67, 32, 1, 7, .int 0, []),
  (32, .iconst 0, 33, 0, 0, .int 0, []),
  (33, .ireturn, 34, 0, 0, .null, [])])
def t_X4_remove : e_M := ((RX4, yX4_remove, cX4_remove, 2, (some FieldType.int)), [(0, .iload_n 1, 1, 1, 0, .null, []),
  (1, .aload_n 0, 2, 0, 0, .null, []),
  (2, .getfield 32, 5, 4, 0, .null, []),
  (5, .arraylength, 6, 0, 0, .null, []),
  (6, .invokestatic 46, 9, 53, 2, .null, []),
  (9, .ifCond .eq 12, 12, 21, 0, .null, []),
  (12, .aload_n 0, 13, 0, 0, .null, []),
  (13, .iload_n 1, 14, 1, 0, .null, []),
  (14, .iconst 0, 15, 0, 0, .int 0, []),
  (15, .invokevirtual 57, 18, 54, 2, .null, [4]),
  (18, .ifCond .eq 5, 21, 23, 0, .null, []),
  (21, .iconst 1, 22, 0, 0, .int 1, []),
  (22, .ireturn, 23, 0, 0, .null, []),
  (23, .aload_n 0, 24, 0, 0, .null, []),
  (24, .iload_n 1, 25, 1, 0, .null, []),
  (25, .invokevirtual 124, 28, 61, 1, .null, [4]),
  (28, .ifCond .ne 5, 31, 33, 0, .null, []),
  (31, .iconst 2, 32, 0, 0, .int 2, []),
  (32, .ireturn, 33, 0, 0, .null, []),
  (33, .aload_n 0, 34, 0, 0, .null, []),
  (34, .getfield 32, 37, 4, 0, .null, []),
  (37, .iload_n 1, 38, 1, 0, .null, []),
  (38, .aaload, 39, 0, 0, .null, []),
  (39, .invokevirtual 128, 42, 11, 0, .null, [1]),
  (42, .iconst 0, 43, 0, 0, .int 0, []),
  (43, .ireturn, 44, 0, 0, .null, [])])
def t_X4_enter : e_M := ((RX4, yX4_enter, cX4_enter, 8, (some FieldType.int)), [(0, .aload_n 0, 1, 0, 0, .null, []),
  (1, .iload_n 1, 2, 1, 0, .null, []),
  (2, .iconst 0, 3, 0, 0, .int 0, []),
  (3, .iload 4, 5, 4, 0, .null, []),
  (5, .invokevirtual 131, 8, 62, 3, .null, [4]),
  (8, .istore 5, 10, 5, 0, .null, []),
  (10, .iload 5, 12, 5, 0, .null, []),
  (12, .ifCond .eq 7, 15, 19, 0, .null, []),
  (15, .iload 5, 17, 5, 0, .null, []),
  (17, .ineg, 18, 0, 0, .null, []),
  (18, .ireturn, 19, 0, 0, .null, []),
  (19, .aload_n 0, 20, 0, 0, .null, []),
  (20, .getfield 32, 23, 4, 0, .null, []),
  (23, .iload_n 1, 24, 1, 0, .null, []),
  (24, .aaload, 25, 0, 0, .null, []),
  (25, .getfield 81, 28, 1, 0, .null, []),
  (28, .astore 6, 30, 6, 0, .null, []),
  (30, .aload 6, 32, 6, 0, .null, []),
  (32, .iconst 2, 33, 0, 0, .int 2, []),
  (33, .aload 6, 35, 6, 0, .null, []),
  (35, .iconst 0, 36, 0, 0, .int 0, []),
  (36, .iaload, 37, 0, 0, .null, []),
  (37, .iastore, 38, 0, 0, .null, []),
  (38, .iconst 0, 39, 0, 0, .int 0, []),
  (39, .istore 7, 41, 7, 0, .null, []),
  (41, .iload 7, 43, 7, 0, .null, []),
  (43, .bipush 8, 45, 0, 0, .int 8, []),
  (45, .if_icmp .ge 17, 48, 62, 0, .null, []),
  (48, .aload 6, 50, 6, 0, .null, []),
  (50, .iconst 3, 51, 0, 0, .int 3, []),
  (51, .iload 7, 53, 7, 0, .null, []),
  (53, .iadd, 54, 0, 0, .null, []),
  (54, .iconst 0, 55, 0, 0, .int 0, []),
  (55, .iastore, 56, 0, 0, .null, []),
  (56, .iinc 7 1, 59, 7, 0, .int (1), []),
  (59, .goto (-18), 62, 41, 0, .null, []),
  (62, .aload 6, 64, 6, 0, .null, []),
  (64, .iconst 3, 65, 0, 0, .int 3, []),
  (65, .iload_n 2, 66, 2, 0, .null, []),
  (66, .iastore, 67, 0, 0, .null, []),
  (67, .aload 6, 69, 6, 0, .null, []),
  (69, .iconst 4, 70, 0, 0, .int 4, []),
  (70, .iload_n 3, 71, 3, 0, .null, []),
  (71, .iastore, 72, 0, 0, .null, []),
  (72, .aload_n 0, 73, 0, 0, .null, []),
  (73, .iload_n 1, 74, 1, 0, .null, []),
  (74, .iload 4, 76, 4, 0, .null, []),
  (76, .invokevirtual 135, 79, 63, 2, .null, [4]),
  (79, .ireturn, 80, 0, 0, .null, [])])
def t_X4_resume : e_M := ((RX4, yX4_resume, cX4_resume, 4, (some FieldType.int)), [(0, .aload_n 0, 1, 0, 0, .null, []),
  (1, .iload_n 1, 2, 1, 0, .null, []),
  (2, .iconst 1, 3, 0, 0, .int 1, []),
  (3, .iload_n 2, 4, 2, 0, .null, []),
  (4, .invokevirtual 131, 7, 62, 3, .null, [4]),
  (7, .istore_n 3, 8, 3, 0, .null, []),
  (8, .iload_n 3, 9, 3, 0, .null, []),
  (9, .ifCond .eq 6, 12, 15, 0, .null, []),
  (12, .iload_n 3, 13, 3, 0, .null, []),
  (13, .ineg, 14, 0, 0, .null, []),
  (14, .ireturn, 15, 0, 0, .null, []),
  (15, .aload_n 0, 16, 0, 0, .null, []),
  (16, .iload_n 1, 17, 1, 0, .null, []),
  (17, .iload_n 2, 18, 2, 0, .null, []),
  (18, .invokevirtual 135, 21, 63, 2, .null, [4]),
  (21, .ireturn, 22, 0, 0, .null, [])])
def t_X4_told : e_M := ((RX4, yX4_told, cX4_told, 2, (some FieldType.int)), [(0, .iload_n 1, 1, 1, 0, .null, []),
  (1, .tableswitch 63 0 3 #[31, 39, 47, 55], 32, 0, 0, .null, [64, 32, 40, 48, 56]),
  (32, .aload_n 0, 33, 0, 0, .null, []),
  (33, .getfield 26, 36, 4, 5, .null, []),
  (36, .getfield 138, 39, 2, 1, .null, []),
  (39, .ireturn, 40, 0, 0, .null, []),
  (40, .aload_n 0, 41, 0, 0, .null, []),
  (41, .getfield 26, 44, 4, 5, .null, []),
  (44, .getfield 141, 47, 2, 2, .null, []),
  (47, .ireturn, 48, 0, 0, .null, []),
  (48, .aload_n 0, 49, 0, 0, .null, []),
  (49, .getfield 26, 52, 4, 5, .null, []),
  (52, .getfield 144, 55, 2, 3, .null, []),
  (55, .ireturn, 56, 0, 0, .null, []),
  (56, .aload_n 0, 57, 0, 0, .null, []),
  (57, .getfield 26, 60, 4, 5, .null, []),
  (60, .getfield 147, 63, 2, 4, .null, []),
  (63, .ireturn, 64, 0, 0, .null, []),
  (64, .iconst (-1), 65, 0, 0, .int (-1), []),
  (65, .ireturn, 66, 0, 0, .null, [])])
def t_X4_evict : e_M := ((RX4, yX4_evict, cX4_evict, 5, (some FieldType.int)), [(0, .aload_n 0, 1, 0, 0, .null, []),
  (1, .iload_n 1, 2, 1, 0, .null, []),
  (2, .iload_n 2, 3, 2, 0, .null, []),
  (3, .iload_n 3, 4, 3, 0, .null, []),
  (4, .invokevirtual 150, 7, 64, 3, .null, [4]),
  (7, .istore 4, 9, 4, 0, .null, []),
  (9, .iload 4, 11, 4, 0, .null, []),
  (11, .ifCond .eq 6, 14, 17, 0, .null, []),
  (14, .iload 4, 16, 4, 0, .null, []),
  (16, .ireturn, 17, 0, 0, .null, []),
  (17, .aload_n 0, 18, 0, 0, .null, []),
  (18, .dup, 19, 0, 0, .null, []),
  (19, .getfield 154, 22, 4, 6, .null, []),
  (22, .lconst 1, 23, 0, 0, .long 1, []),
  (23, .ladd, 24, 0, 0, .null, []),
  (24, .putfield 154, 27, 4, 6, .long 0, []),
  (27, .aload_n 0, 28, 0, 0, .null, []),
  (28, .aload_n 0, 29, 0, 0, .null, []),
  (29, .getfield 32, 32, 4, 0, .null, []),
  (32, .iload_n 1, 33, 1, 0, .null, []),
  (33, .aaload, 34, 0, 0, .null, []),
  (34, .aload_n 0, 35, 0, 0, .null, []),
  (35, .getfield 154, 38, 4, 6, .null, []),
  (38, .invokevirtual 158, 41, 67, 2, .null, [4]),
  (41, .aload_n 0, 42, 0, 0, .null, []),
  (42, .getfield 32, 45, 4, 0, .null, []),
  (45, .iload_n 2, 46, 2, 0, .null, []),
  (46, .aaload, 47, 0, 0, .null, []),
  (47, .iload_n 3, 48, 3, 0, .null, []),
  (48, .aload_n 0, 49, 0, 0, .null, []),
  (49, .getfield 154, 52, 4, 6, .null, []),
  (52, .invokevirtual 162, 55, 15, 2, .null, [1]),
  (55, .aload_n 0, 56, 0, 0, .null, []),
  (56, .getfield 32, 59, 4, 0, .null, []),
  (59, .iload_n 1, 60, 1, 0, .null, []),
  (60, .aaload, 61, 0, 0, .null, []),
  (61, .invokevirtual 128, 64, 11, 0, .null, [1]),
  (64, .iconst 0, 65, 0, 0, .int 0, []),
  (65, .ireturn, 66, 0, 0, .null, [])])
def t_X4_reload : e_M := ((RX4, yX4_reload, cX4_reload, 6, (some FieldType.int)), [(0, .aload_n 0, 1, 0, 0, .null, []),
  (1, .iload_n 1, 2, 1, 0, .null, []),
  (2, .iload_n 2, 3, 2, 0, .null, []),
  (3, .iload_n 3, 4, 3, 0, .null, []),
  (4, .iload 4, 6, 4, 0, .null, []),
  (6, .invokevirtual 166, 9, 65, 4, .null, [4]),
  (9, .istore 5, 11, 5, 0, .null, []),
  (11, .iload 5, 13, 5, 0, .null, []),
  (13, .iconst 4, 14, 0, 0, .int 4, []),
  (14, .if_icmp .ne 13, 17, 27, 0, .null, []),
  (17, .aload_n 0, 18, 0, 0, .null, []),
  (18, .dup, 19, 0, 0, .null, []),
  (19, .getfield 170, 22, 4, 8, .null, []),
  (22, .iconst 1, 23, 0, 0, .int 1, []),
  (23, .iadd, 24, 0, 0, .null, []),
  (24, .putfield 170, 27, 4, 8, .int 0, []),
  (27, .iload 5, 29, 5, 0, .null, []),
  (29, .iconst 5, 30, 0, 0, .int 5, []),
  (30, .if_icmp .ne 13, 33, 43, 0, .null, []),
  (33, .aload_n 0, 34, 0, 0, .null, []),
  (34, .dup, 35, 0, 0, .null, []),
  (35, .getfield 173, 38, 4, 9, .null, []),
  (38, .iconst 1, 39, 0, 0, .int 1, []),
  (39, .iadd, 40, 0, 0, .null, []),
  (40, .putfield 173, 43, 4, 9, .int 0, []),
  (43, .iload 5, 45, 5, 0, .null, []),
  (45, .ifCond .eq 6, 48, 51, 0, .null, []),
  (48, .iload 5, 50, 5, 0, .null, []),
  (50, .ireturn, 51, 0, 0, .null, []),
  (51, .aload_n 0, 52, 0, 0, .null, []),
  (52, .dup, 53, 0, 0, .null, []),
  (53, .getfield 176, 56, 4, 7, .null, []),
  (56, .iconst 1, 57, 0, 0, .int 1, []),
  (57, .iadd, 58, 0, 0, .null, []),
  (58, .putfield 176, 61, 4, 7, .int 0, []),
  (61, .aload_n 0, 62, 0, 0, .null, []),
  (62, .aload_n 0, 63, 0, 0, .null, []),
  (63, .getfield 32, 66, 4, 0, .null, []),
  (66, .iload_n 1, 67, 1, 0, .null, []),
  (67, .aaload, 68, 0, 0, .null, []),
  (68, .iload_n 2, 69, 2, 0, .null, []),
  (69, .invokevirtual 179, 72, 68, 2, .null, [4]),
  (72, .aload_n 0, 73, 0, 0, .null, []),
  (73, .getfield 32, 76, 4, 0, .null, []),
  (76, .iload_n 3, 77, 3, 0, .null, []),
  (77, .aaload, 78, 0, 0, .null, []),
  (78, .iload 4, 80, 4, 0, .null, []),
  (80, .lconst 0, 81, 0, 0, .long 0, []),
  (81, .invokevirtual 162, 84, 15, 2, .null, [1]),
  (84, .iconst 0, 85, 0, 0, .int 0, []),
  (85, .ireturn, 86, 0, 0, .null, [])])
def t_X4_page : e_M := ((RX4, yX4_page, cX4_page, 4, (some FieldType.int)), [(0, .iload_n 1, 1, 1, 0, .null, []),
  (1, .aload_n 0, 2, 0, 0, .null, []),
  (2, .getfield 32, 5, 4, 0, .null, []),
  (5, .arraylength, 6, 0, 0, .null, []),
  (6, .invokestatic 46, 9, 53, 2, .null, []),
  (9, .ifCond .ne 5, 12, 14, 0, .null, []),
  (12, .iconst (-1), 13, 0, 0, .int (-1), []),
  (13, .ireturn, 14, 0, 0, .null, []),
  (14, .aload_n 0, 15, 0, 0, .null, []),
  (15, .getfield 32, 18, 4, 0, .null, []),
  (18, .iload_n 1, 19, 1, 0, .null, []),
  (19, .aaload, 20, 0, 0, .null, []),
  (20, .astore_n 3, 21, 3, 0, .null, []),
  (21, .iload_n 2, 22, 2, 0, .null, []),
  (22, .tableswitch 108 0 7 #[46, 51, 56, 73, 78, 83, 89, 95], 68, 0, 0, .null, [130, 68, 73, 78, 95, 100, 105, 111, 117]),
  (68, .aload_n 3, 69, 3, 0, .null, []),
  (69, .getfield 64, 72, 1, 2, .null, []),
  (72, .ireturn, 73, 0, 0, .null, []),
  (73, .aload_n 3, 74, 3, 0, .null, []),
  (74, .getfield 183, 77, 1, 3, .null, []),
  (77, .ireturn, 78, 0, 0, .null, []),
  (78, .aload_n 3, 79, 3, 0, .null, []),
  (79, .getfield 64, 82, 1, 2, .null, []),
  (82, .iconst 3, 83, 0, 0, .int 3, []),
  (83, .if_icmp .ne 10, 86, 93, 0, .null, []),
  (86, .aload_n 3, 87, 3, 0, .null, []),
  (87, .getfield 91, 90, 1, 4, .null, []),
  (90, .goto 4, 93, 94, 0, .null, []),
  (93, .iconst (-1), 94, 0, 0, .int (-1), []),
  (94, .ireturn, 95, 0, 0, .null, []),
  (95, .aload_n 3, 96, 3, 0, .null, []),
  (96, .getfield 94, 99, 1, 5, .null, []),
  (99, .ireturn, 100, 0, 0, .null, []),
  (100, .aload_n 3, 101, 3, 0, .null, []),
  (101, .getfield 70, 104, 1, 6, .null, []),
  (104, .ireturn, 105, 0, 0, .null, []),
  (105, .aload_n 0, 106, 0, 0, .null, []),
  (106, .iload_n 1, 107, 1, 0, .null, []),
  (107, .invokevirtual 103, 110, 55, 1, .null, [4]),
  (110, .ireturn, 111, 0, 0, .null, []),
  (111, .aload_n 0, 112, 0, 0, .null, []),
  (112, .iload_n 1, 113, 1, 0, .null, []),
  (113, .invokevirtual 186, 116, 57, 1, .null, [4]),
  (116, .ireturn, 117, 0, 0, .null, []),
  (117, .aload_n 3, 118, 3, 0, .null, []),
  (118, .invokevirtual 189, 121, 12, 0, .null, [1]),
  (121, .ifCond .eq 7, 124, 128, 0, .null, []),
  (124, .iconst 1, 125, 0, 0, .int 1, []),
  (125, .goto 4, 128, 129, 0, .null, []),
  (128, .iconst 0, 129, 0, 0, .int 0, []),
  (129, .ireturn, 130, 0, 0, .null, []),
  (130, .iconst (-1), 131, 0, 0, .int (-1), []),
  (131, .ireturn, 132, 0, 0, .null, [])])
def t_X4_measure : e_M := ((RX4, yX4_measure, cX4_measure, 3, (some FieldType.int)), [(0, .aload_n 0, 1, 0, 0, .null, []),
  (1, .iload_n 1, 2, 1, 0, .null, []),
  (2, .iconst 1, 3, 0, 0, .int 1, []),
  (3, .invokevirtual 57, 6, 54, 2, .null, [4]),
  (6, .ifCond .eq 12, 9, 18, 0, .null, []),
  (9, .iload_n 2, 10, 2, 0, .null, []),
  (10, .bipush 8, 12, 0, 0, .int 8, []),
  (12, .invokestatic 46, 15, 53, 2, .null, []),
  (15, .ifCond .ne 5, 18, 20, 0, .null, []),
  (18, .iconst 0, 19, 0, 0, .int 0, []),
  (19, .ireturn, 20, 0, 0, .null, []),
  (20, .aload_n 0, 21, 0, 0, .null, []),
  (21, .getfield 32, 24, 4, 0, .null, []),
  (24, .iload_n 1, 25, 1, 0, .null, []),
  (25, .aaload, 26, 0, 0, .null, []),
  (26, .getfield 110, 29, 1, 1, .null, []),
  (29, .iload_n 2, 30, 2, 0, .null, []),
  (30, .iaload, 31, 0, 0, .null, []),
  (31, .ireturn, 32, 0, 0, .null, [])])
def t_X4_slot : e_M := ((RX4, yX4_slot, cX4_slot, 3, (some FieldType.long)), [(0, .aload_n 0, 1, 0, 0, .null, []),
  (1, .iload_n 1, 2, 1, 0, .null, []),
  (2, .iconst 4, 3, 0, 0, .int 4, []),
  (3, .invokevirtual 57, 6, 54, 2, .null, [4]),
  (6, .ifCond .eq 12, 9, 18, 0, .null, []),
  (9, .iload_n 2, 10, 2, 0, .null, []),
  (10, .bipush 16, 12, 0, 0, .int 16, []),
  (12, .invokestatic 46, 15, 53, 2, .null, []),
  (15, .ifCond .ne 5, 18, 20, 0, .null, []),
  (18, .lconst 0, 19, 0, 0, .long 0, []),
  (19, .lreturn, 20, 0, 0, .null, []),
  (20, .aload_n 0, 21, 0, 0, .null, []),
  (21, .getfield 32, 24, 4, 0, .null, []),
  (24, .iload_n 1, 25, 1, 0, .null, []),
  (25, .aaload, 26, 0, 0, .null, []),
  (26, .iload_n 2, 27, 2, 0, .null, []),
  (27, .invokevirtual 193, 30, 14, 1, .null, [1]),
  (30, .lreturn, 31, 0, 0, .null, [])])
def t_X4_count : e_M := ((RX4, yX4_count, cX4_count, 2, (some FieldType.int)), [(0, .iload_n 1, 1, 1, 0, .null, []),
  (1, .iconst 1, 2, 0, 0, .int 1, []),
  (2, .if_icmp .lt 16, 5, 18, 0, .null, []),
  (5, .iload_n 1, 6, 1, 0, .null, []),
  (6, .iconst 5, 7, 0, 0, .int 5, []),
  (7, .if_icmp .gt 11, 10, 18, 0, .null, []),
  (10, .aload_n 0, 11, 0, 0, .null, []),
  (11, .iload_n 1, 12, 1, 0, .null, []),
  (12, .iconst 1, 13, 0, 0, .int 1, []),
  (13, .isub, 14, 0, 0, .null, []),
  (14, .invokevirtual 197, 17, 56, 1, .null, [4]),
  (17, .ireturn, 18, 0, 0, .null, []),
  (18, .iload_n 1, 19, 1, 0, .null, []),
  (19, .tableswitch 89 0 10 #[57, 89, 89, 89, 89, 89, 63, 69, 74, 79, 84], 76, 0, 0, .null, [108, 76, 108, 108, 108, 108, 108, 82, 88, 93, 98, 103]),
  (76, .aload_n 0, 77, 0, 0, .null, []),
  (77, .getfield 32, 80, 4, 0, .null, []),
  (80, .arraylength, 81, 0, 0, .null, []),
  (81, .ireturn, 82, 0, 0, .null, []),
  (82, .aload_n 0, 83, 0, 0, .null, []),
  (83, .getfield 154, 86, 4, 6, .null, []),
  (86, .l2i, 87, 0, 0, .null, []),
  (87, .ireturn, 88, 0, 0, .null, []),
  (88, .aload_n 0, 89, 0, 0, .null, []),
  (89, .getfield 176, 92, 4, 7, .null, []),
  (92, .ireturn, 93, 0, 0, .null, []),
  (93, .aload_n 0, 94, 0, 0, .null, []),
  (94, .getfield 170, 97, 4, 8, .null, []),
  (97, .ireturn, 98, 0, 0, .null, []),
  (98, .aload_n 0, 99, 0, 0, .null, []),
  (99, .getfield 173, 102, 4, 9, .null, []),
  (102, .ireturn, 103, 0, 0, .null, []),
  (103, .aload_n 0, 104, 0, 0, .null, []),
  (104, .getfield 60, 107, 4, 10, .null, []),
  (107, .ireturn, 108, 0, 0, .null, []),
  (108, .iconst (-1), 109, 0, 0, .int (-1), []),
  (109, .ireturn, 110, 0, 0, .null, [])])
def t_X4_isWithin : e_M := ((RX4, yX4_isWithin, cX4_isWithin, 2, (some FieldType.boolean)), [(0, .iload_n 0, 1, 0, 0, .null, []),
  (1, .ifCond .lt 12, 4, 13, 0, .null, []),
  (4, .iload_n 0, 5, 0, 0, .null, []),
  (5, .iload_n 1, 6, 1, 0, .null, []),
  (6, .if_icmp .ge 7, 9, 13, 0, .null, []),
  (9, .iconst 1, 10, 0, 0, .int 1, []),
  (10, .goto 4, 13, 14, 0, .null, []),
  (13, .iconst 0, 14, 0, 0, .int 0, []),
  (14, .ireturn, 15, 0, 0, .null, [])])
def t_X4_isOfType : e_M := ((RX4, yX4_isOfType, cX4_isOfType, 3, (some FieldType.boolean)), [(0, .iload_n 1, 1, 1, 0, .null, []),
  (1, .aload_n 0, 2, 0, 0, .null, []),
  (2, .getfield 32, 5, 4, 0, .null, []),
  (5, .arraylength, 6, 0, 0, .null, []),
  (6, .invokestatic 46, 9, 53, 2, .null, []),
  (9, .ifCond .eq 20, 12, 29, 0, .null, []),
  (12, .aload_n 0, 13, 0, 0, .null, []),
  (13, .getfield 32, 16, 4, 0, .null, []),
  (16, .iload_n 1, 17, 1, 0, .null, []),
  (17, .aaload, 18, 0, 0, .null, []),
  (18, .getfield 64, 21, 1, 2, .null, []),
  (21, .iload_n 2, 22, 2, 0, .null, []),
  (22, .if_icmp .ne 7, 25, 29, 0, .null, []),
  (25, .iconst 1, 26, 0, 0, .int 1, []),
  (26, .goto 4, 29, 30, 0, .null, []),
  (29, .iconst 0, 30, 0, 0, .int 0, []),
  (30, .ireturn, 31, 0, 0, .null, [])])
def t_X4_stateOf : e_M := ((RX4, yX4_stateOf, cX4_stateOf, 2, (some FieldType.int)), [(0, .aload_n 0, 1, 0, 0, .null, []),
  (1, .iload_n 1, 2, 1, 0, .null, []),
  (2, .iconst 1, 3, 0, 0, .int 1, []),
  (3, .invokevirtual 57, 6, 54, 2, .null, [4]),
  (6, .ifCond .eq 15, 9, 21, 0, .null, []),
  (9, .aload_n 0, 10, 0, 0, .null, []),
  (10, .getfield 32, 13, 4, 0, .null, []),
  (13, .iload_n 1, 14, 1, 0, .null, []),
  (14, .aaload, 15, 0, 0, .null, []),
  (15, .getfield 67, 18, 1, 7, .null, []),
  (18, .goto 4, 21, 22, 0, .null, []),
  (21, .iconst (-1), 22, 0, 0, .int (-1), []),
  (22, .ireturn, 23, 0, 0, .null, [])])
def t_X4_pagesOfType : e_M := ((RX4, yX4_pagesOfType, cX4_pagesOfType, 4, (some FieldType.int)), [(0, .iconst 0, 1, 0, 0, .int 0, []),
  (1, .istore_n 2, 2, 2, 0, .null, []),
  (2, .iconst 0, 3, 0, 0, .int 0, []),
  (3, .istore_n 3, 4, 3, 0, .null, []),
  (4, .iload_n 3, 5, 3, 0, .null, []),
  (5, .aload_n 0, 6, 0, 0, .null, []),
  (6, .getfield 32, 9, 4, 0, .null, []),
  (9, .arraylength, 10, 0, 0, .null, []),
  (10, .if_icmp .ge 25, 13, 35, 0, .null, []),
  (13, .aload_n 0, 14, 0, 0, .null, []),
  (14, .getfield 32, 17, 4, 0, .null, []),
  (17, .iload_n 3, 18, 3, 0, .null, []),
  (18, .aaload, 19, 0, 0, .null, []),
  (19, .getfield 64, 22, 1, 2, .null, []),
  (22, .iload_n 1, 23, 1, 0, .null, []),
  (23, .if_icmp .ne 6, 26, 29, 0, .null, []),
  (26, .iinc 2 1, 29, 2, 0, .int (1), []),
  (29, .iinc 3 1, 32, 3, 0, .int (1), []),
  (32, .goto (-28), 35, 4, 0, .null, []),
  (35, .iload_n 2, 36, 2, 0, .null, []),
  (36, .ireturn, 37, 0, 0, .null, [])])
def t_X4_ownedBy : e_M := ((RX4, yX4_ownedBy, cX4_ownedBy, 4, (some FieldType.int)), [(0, .iconst 0, 1, 0, 0, .int 0, []),
  (1, .istore_n 2, 2, 2, 0, .null, []),
  (2, .iconst 0, 3, 0, 0, .int 0, []),
  (3, .istore_n 3, 4, 3, 0, .null, []),
  (4, .iload_n 3, 5, 3, 0, .null, []),
  (5, .aload_n 0, 6, 0, 0, .null, []),
  (6, .getfield 32, 9, 4, 0, .null, []),
  (9, .arraylength, 10, 0, 0, .null, []),
  (10, .if_icmp .ge 25, 13, 35, 0, .null, []),
  (13, .aload_n 0, 14, 0, 0, .null, []),
  (14, .getfield 32, 17, 4, 0, .null, []),
  (17, .iload_n 3, 18, 3, 0, .null, []),
  (18, .aaload, 19, 0, 0, .null, []),
  (19, .getfield 183, 22, 1, 3, .null, []),
  (22, .iload_n 1, 23, 1, 0, .null, []),
  (23, .if_icmp .ne 6, 26, 29, 0, .null, []),
  (26, .iinc 2 1, 29, 2, 0, .int (1), []),
  (29, .iinc 3 1, 32, 3, 0, .int (1), []),
  (32, .goto (-28), 35, 4, 0, .null, []),
  (35, .iload_n 2, 36, 2, 0, .null, []),
  (36, .ireturn, 37, 0, 0, .null, [])])
def t_X4_hasAddress : e_M := ((RX4, yX4_hasAddress, cX4_hasAddress, 4, (some FieldType.boolean)), [(0, .iconst 0, 1, 0, 0, .int 0, []),
  (1, .istore_n 3, 2, 3, 0, .null, []),
  (2, .iload_n 3, 3, 3, 0, .null, []),
  (3, .aload_n 0, 4, 0, 0, .null, []),
  (4, .getfield 32, 7, 4, 0, .null, []),
  (7, .arraylength, 8, 0, 0, .null, []),
  (8, .if_icmp .ge 37, 11, 45, 0, .null, []),
  (11, .aload_n 0, 12, 0, 0, .null, []),
  (12, .getfield 32, 15, 4, 0, .null, []),
  (15, .iload_n 3, 16, 3, 0, .null, []),
  (16, .aaload, 17, 0, 0, .null, []),
  (17, .iload_n 1, 18, 1, 0, .null, []),
  (18, .invokevirtual 200, 21, 13, 1, .null, [1]),
  (21, .ifCond .eq 18, 24, 39, 0, .null, []),
  (24, .aload_n 0, 25, 0, 0, .null, []),
  (25, .getfield 32, 28, 4, 0, .null, []),
  (28, .iload_n 3, 29, 3, 0, .null, []),
  (29, .aaload, 30, 0, 0, .null, []),
  (30, .getfield 91, 33, 1, 4, .null, []),
  (33, .iload_n 2, 34, 2, 0, .null, []),
  (34, .if_icmp .ne 5, 37, 39, 0, .null, []),
  (37, .iconst 1, 38, 0, 0, .int 1, []),
  (38, .ireturn, 39, 0, 0, .null, []),
  (39, .iinc 3 1, 42, 3, 0, .int (1), []),
  (42, .goto (-40), 45, 2, 0, .null, []),
  (45, .iconst 0, 46, 0, 0, .int 0, []),
  (46, .ireturn, 47, 0, 0, .null, [])])
def t_X4_whyNotAdded : e_M := ((RX4, yX4_whyNotAdded, cX4_whyNotAdded, 3, (some FieldType.int)), [(0, .aload_n 0, 1, 0, 0, .null, []),
  (1, .iload_n 1, 2, 1, 0, .null, []),
  (2, .iconst 1, 3, 0, 0, .int 1, []),
  (3, .invokevirtual 57, 6, 54, 2, .null, [4]),
  (6, .ifCond .eq 12, 9, 18, 0, .null, []),
  (9, .aload_n 0, 10, 0, 0, .null, []),
  (10, .iload_n 2, 11, 2, 0, .null, []),
  (11, .iconst 0, 12, 0, 0, .int 0, []),
  (12, .invokevirtual 57, 15, 54, 2, .null, [4]),
  (15, .ifCond .ne 5, 18, 20, 0, .null, []),
  (18, .iconst 1, 19, 0, 0, .int 1, []),
  (19, .ireturn, 20, 0, 0, .null, []),
  (20, .aload_n 0, 21, 0, 0, .null, []),
  (21, .iload_n 1, 22, 1, 0, .null, []),
  (22, .invokevirtual 103, 25, 55, 1, .null, [4]),
  (25, .ifCond .ne 7, 28, 32, 0, .null, []),
  (28, .iconst 0, 29, 0, 0, .int 0, []),
  (29, .goto 4, 32, 33, 0, .null, []),
  (32, .iconst 2, 33, 0, 0, .int 2, []),
  (33, .ireturn, 34, 0, 0, .null, [])])
def t_X4_extendMeasure : e_M := ((RX4, yX4_extendMeasure, cX4_extendMeasure, 4, (Option.none : Option FieldType)), [(0, .aload_n 0, 1, 0, 0, .null, []),
  (1, .getfield 19, 4, 4, 3, .null, []),
  (4, .invokevirtual 107, 7, 1, 0, .null, [0]),
  (7, .aload_n 0, 8, 0, 0, .null, []),
  (8, .getfield 19, 11, 4, 3, .null, []),
  (11, .aload_n 1, 12, 1, 0, .null, []),
  (12, .getfield 110, 15, 1, 1, .null, []),
  (15, .bipush 8, 17, 0, 0, .int 8, []),
  (17, .invokevirtual 113, 20, 3, 2, .null, [0]),
  (20, .aload_n 0, 21, 0, 0, .null, []),
  (21, .getfield 19, 24, 4, 3, .null, []),
  (24, .aload_n 2, 25, 2, 0, .null, []),
  (25, .getfield 64, 28, 1, 2, .null, []),
  (28, .invokevirtual 117, 31, 2, 1, .null, [0]),
  (31, .aload_n 0, 32, 0, 0, .null, []),
  (32, .getfield 19, 35, 4, 3, .null, []),
  (35, .iload_n 3, 36, 3, 0, .null, []),
  (36, .invokevirtual 117, 39, 2, 1, .null, [0]),
  (39, .aload_n 0, 40, 0, 0, .null, []),
  (40, .getfield 19, 43, 4, 3, .null, []),
  (43, .aload_n 2, 44, 2, 0, .null, []),
  (44, .getfield 94, 47, 1, 5, .null, []),
  (47, .invokevirtual 117, 50, 2, 1, .null, [0]),
  (50, .aload_n 0, 51, 0, 0, .null, []),
  (51, .getfield 19, 54, 4, 3, .null, []),
  (54, .iconst 0, 55, 0, 0, .int 0, []),
  (55, .invokevirtual 117, 58, 2, 1, .null, [0]),
  (58, .aload_n 0, 59, 0, 0, .null, []),
  (59, .getfield 19, 62, 4, 3, .null, []),
  (62, .aload_n 2, 63, 2, 0, .null, []),
  (63, .getfield 81, 66, 1, 0, .null, []),
  (66, .bipush 32, 68, 0, 0, .int 32, []),
  (68, .invokevirtual 113, 71, 3, 2, .null, [0]),
  (71, .aload_n 0, 72, 0, 0, .null, []),
  (72, .getfield 19, 75, 4, 3, .null, []),
  (75, .aload_n 1, 76, 1, 0, .null, []),
  (76, .getfield 110, 79, 1, 1, .null, []),
  (79, .iconst 0, 80, 0, 0, .int 0, []),
  (80, .invokevirtual 121, 83, 4, 2, .null, [0]),
  (83, .return_, 84, 0, 0, .null, [])])
def t_X4_isRemovable : e_M := ((RX4, yX4_isRemovable, cX4_isRemovable, 3, (some FieldType.boolean)), [(0, .aload_n 0, 1, 0, 0, .null, []),
  (1, .getfield 32, 4, 4, 0, .null, []),
  (4, .iload_n 1, 5, 1, 0, .null, []),
  (5, .aaload, 6, 0, 0, .null, []),
  (6, .getfield 64, 9, 1, 2, .null, []),
  (9, .istore_n 2, 10, 2, 0, .null, []),
  (10, .iload_n 2, 11, 2, 0, .null, []),
  (11, .iconst 1, 12, 0, 0, .int 1, []),
  (12, .if_icmp .ne 26, 15, 38, 0, .null, []),
  (15, .aload_n 0, 16, 0, 0, .null, []),
  (16, .iload_n 1, 17, 1, 0, .null, []),
  (17, .invokevirtual 103, 20, 55, 1, .null, [4]),
  (20, .iconst 2, 21, 0, 0, .int 2, []),
  (21, .if_icmp .ne 15, 24, 36, 0, .null, []),
  (24, .aload_n 0, 25, 0, 0, .null, []),
  (25, .iload_n 1, 26, 1, 0, .null, []),
  (26, .invokevirtual 186, 29, 57, 1, .null, [4]),
  (29, .ifCond .ne 7, 32, 36, 0, .null, []),
  (32, .iconst 1, 33, 0, 0, .int 1, []),
  (33, .goto 4, 36, 37, 0, .null, []),
  (36, .iconst 0, 37, 0, 0, .int 0, []),
  (37, .ireturn, 38, 0, 0, .null, []),
  (38, .iload_n 2, 39, 2, 0, .null, []),
  (39, .iconst 4, 40, 0, 0, .int 4, []),
  (40, .if_icmp .eq 20, 43, 60, 0, .null, []),
  (43, .aload_n 0, 44, 0, 0, .null, []),
  (44, .aload_n 0, 45, 0, 0, .null, []),
  (45, .getfield 32, 48, 4, 0, .null, []),
  (48, .iload_n 1, 49, 1, 0, .null, []),
  (49, .aaload, 50, 0, 0, .null, []),
  (50, .getfield 183, 53, 1, 3, .null, []),
  (53, .invokevirtual 103, 56, 55, 1, .null, [4]),
  (56, .iconst 2, 57, 0, 0, .int 2, []),
  (57, .if_icmp .ne 7, 60, 64, 0, .null, []),
  (60, .iconst 1, 61, 0, 0, .int 1, []),
  (61, .goto 4, 64, 65, 0, .null, []),
  (64, .iconst 0, 65, 0, 0, .int 0, []),
  (65, .ireturn, 66, 0, 0, .null, [])])
def t_X4_whyNotRun : e_M := ((RX4, yX4_whyNotRun, cX4_whyNotRun, 5, (some FieldType.int)), [(0, .aload_n 0, 1, 0, 0, .null, []),
  (1, .iload_n 1, 2, 1, 0, .null, []),
  (2, .iconst 2, 3, 0, 0, .int 2, []),
  (3, .invokevirtual 57, 6, 54, 2, .null, [4]),
  (6, .ifCond .ne 5, 9, 11, 0, .null, []),
  (9, .iconst 1, 10, 0, 0, .int 1, []),
  (10, .ireturn, 11, 0, 0, .null, []),
  (11, .aload_n 0, 12, 0, 0, .null, []),
  (12, .getfield 32, 15, 4, 0, .null, []),
  (15, .iload_n 1, 16, 1, 0, .null, []),
  (16, .aaload, 17, 0, 0, .null, []),
  (17, .astore 4, 19, 4, 0, .null, []),
  (19, .aload_n 0, 20, 0, 0, .null, []),
  (20, .aload 4, 22, 4, 0, .null, []),
  (22, .getfield 183, 25, 1, 3, .null, []),
  (25, .invokevirtual 103, 28, 55, 1, .null, [4]),
  (28, .iconst 1, 29, 0, 0, .int 1, []),
  (29, .if_icmp .ne 12, 32, 41, 0, .null, []),
  (32, .aload 4, 34, 4, 0, .null, []),
  (34, .invokevirtual 189, 37, 12, 0, .null, [1]),
  (37, .iload_n 2, 38, 2, 0, .null, []),
  (38, .if_icmp .eq 5, 41, 43, 0, .null, []),
  (41, .iconst 2, 42, 0, 0, .int 2, []),
  (42, .ireturn, 43, 0, 0, .null, []),
  (43, .iload_n 3, 44, 3, 0, .null, []),
  (44, .ifCond .lt 10, 47, 54, 0, .null, []),
  (47, .iload_n 3, 48, 3, 0, .null, []),
  (48, .sipush 5000, 51, 0, 0, .int 5000, []),
  (51, .if_icmp .le 8, 54, 59, 0, .null, []),
  (54, .bipush 6, 56, 0, 0, .int 6, []),
  (56, .goto 4, 59, 60, 0, .null, []),
  (59, .iconst 0, 60, 0, 0, .int 0, []),
  (60, .ireturn, 61, 0, 0, .null, [])])
def t_X4_runThread : e_M := ((RX4, yX4_runThread, cX4_runThread, 4, (some FieldType.int)), [(0, .aload_n 0, 1, 0, 0, .null, []),
  (1, .getfield 32, 4, 4, 0, .null, []),
  (4, .iload_n 1, 5, 1, 0, .null, []),
  (5, .aaload, 6, 0, 0, .null, []),
  (6, .getfield 183, 9, 1, 3, .null, []),
  (9, .istore_n 3, 10, 3, 0, .null, []),
  (10, .aload_n 0, 11, 0, 0, .null, []),
  (11, .getfield 26, 14, 4, 5, .null, []),
  (14, .aload_n 0, 15, 0, 0, .null, []),
  (15, .getfield 32, 18, 4, 0, .null, []),
  (18, .iload_n 3, 19, 3, 0, .null, []),
  (19, .invokevirtual 203, 22, 18, 2, .null, [2]),
  (22, .aload_n 0, 23, 0, 0, .null, []),
  (23, .getfield 26, 26, 4, 5, .null, []),
  (26, .aload_n 0, 27, 0, 0, .null, []),
  (27, .getfield 32, 30, 4, 0, .null, []),
  (30, .iload_n 1, 31, 1, 0, .null, []),
  (31, .aaload, 32, 0, 0, .null, []),
  (32, .getfield 81, 35, 1, 0, .null, []),
  (35, .aload_n 0, 36, 0, 0, .null, []),
  (36, .getfield 32, 39, 4, 0, .null, []),
  (39, .iload_n 3, 40, 3, 0, .null, []),
  (40, .aaload, 41, 0, 0, .null, []),
  (41, .getfield 110, 44, 1, 1, .null, []),
  (44, .iload_n 2, 45, 2, 0, .null, []),
  (45, .invokevirtual 207, 48, 19, 3, .null, [2]),
  (48, .aload_n 0, 49, 0, 0, .null, []),
  (49, .getfield 26, 52, 4, 5, .null, []),
  (52, .getfield 138, 55, 2, 1, .null, []),
  (55, .ireturn, 56, 0, 0, .null, [])])
def t_X4_whyNotEvicted : e_M := ((RX4, yX4_whyNotEvicted, cX4_whyNotEvicted, 6, (some FieldType.int)), [(0, .aload_n 0, 1, 0, 0, .null, []),
  (1, .iload_n 1, 2, 1, 0, .null, []),
  (2, .iconst 2, 3, 0, 0, .int 2, []),
  (3, .invokevirtual 57, 6, 54, 2, .null, [4]),
  (6, .ifCond .ne 12, 9, 18, 0, .null, []),
  (9, .aload_n 0, 10, 0, 0, .null, []),
  (10, .iload_n 1, 11, 1, 0, .null, []),
  (11, .iconst 3, 12, 0, 0, .int 3, []),
  (12, .invokevirtual 57, 15, 54, 2, .null, [4]),
  (15, .ifCond .eq 7, 18, 22, 0, .null, []),
  (18, .iconst 1, 19, 0, 0, .int 1, []),
  (19, .goto 4, 22, 23, 0, .null, []),
  (22, .iconst 0, 23, 0, 0, .int 0, []),
  (23, .istore 4, 25, 4, 0, .null, []),
  (25, .iload 4, 27, 4, 0, .null, []),
  (27, .ifCond .eq 12, 30, 39, 0, .null, []),
  (30, .aload_n 0, 31, 0, 0, .null, []),
  (31, .iload_n 2, 32, 2, 0, .null, []),
  (32, .iconst 4, 33, 0, 0, .int 4, []),
  (33, .invokevirtual 57, 36, 54, 2, .null, [4]),
  (36, .ifCond .ne 5, 39, 41, 0, .null, []),
  (39, .iconst 1, 40, 0, 0, .int 1, []),
  (40, .ireturn, 41, 0, 0, .null, []),
  (41, .aload_n 0, 42, 0, 0, .null, []),
  (42, .aload_n 0, 43, 0, 0, .null, []),
  (43, .getfield 32, 46, 4, 0, .null, []),
  (46, .iload_n 1, 47, 1, 0, .null, []),
  (47, .aaload, 48, 0, 0, .null, []),
  (48, .getfield 183, 51, 1, 3, .null, []),
  (51, .invokevirtual 103, 54, 55, 1, .null, [4]),
  (54, .iconst 1, 55, 0, 0, .int 1, []),
  (55, .if_icmp .eq 5, 58, 60, 0, .null, []),
  (58, .iconst 2, 59, 0, 0, .int 2, []),
  (59, .ireturn, 60, 0, 0, .null, []),
  (60, .iload_n 3, 61, 3, 0, .null, []),
  (61, .bipush 16, 63, 0, 0, .int 16, []),
  (63, .invokestatic 46, 66, 53, 2, .null, []),
  (66, .ifCond .eq 22, 69, 88, 0, .null, []),
  (69, .aload_n 0, 70, 0, 0, .null, []),
  (70, .getfield 32, 73, 4, 0, .null, []),
  (73, .iload_n 2, 74, 2, 0, .null, []),
  (74, .aaload, 75, 0, 0, .null, []),
  (75, .iload_n 3, 76, 3, 0, .null, []),
  (76, .invokevirtual 193, 79, 14, 1, .null, [1]),
  (79, .lconst 0, 80, 0, 0, .long 0, []),
  (80, .lcmp, 81, 0, 0, .null, []),
  (81, .ifCond .ne 7, 84, 88, 0, .null, []),
  (84, .iconst 1, 85, 0, 0, .int 1, []),
  (85, .goto 4, 88, 89, 0, .null, []),
  (88, .iconst 0, 89, 0, 0, .int 0, []),
  (89, .istore 5, 91, 5, 0, .null, []),
  (91, .iload 5, 93, 5, 0, .null, []),
  (93, .ifCond .eq 7, 96, 100, 0, .null, []),
  (96, .iconst 0, 97, 0, 0, .int 0, []),
  (97, .goto 4, 100, 101, 0, .null, []),
  (100, .iconst 3, 101, 0, 0, .int 3, []),
  (101, .ireturn, 102, 0, 0, .null, [])])
def t_X4_whyNotReloaded : e_M := ((RX4, yX4_whyNotReloaded, cX4_whyNotReloaded, 8, (some FieldType.int)), [(0, .aload_n 0, 1, 0, 0, .null, []),
  (1, .iload_n 1, 2, 1, 0, .null, []),
  (2, .iconst 0, 3, 0, 0, .int 0, []),
  (3, .invokevirtual 57, 6, 54, 2, .null, [4]),
  (6, .ifCond .eq 21, 9, 27, 0, .null, []),
  (9, .aload_n 0, 10, 0, 0, .null, []),
  (10, .iload_n 2, 11, 2, 0, .null, []),
  (11, .iconst 1, 12, 0, 0, .int 1, []),
  (12, .invokevirtual 57, 15, 54, 2, .null, [4]),
  (15, .ifCond .eq 12, 18, 27, 0, .null, []),
  (18, .aload_n 0, 19, 0, 0, .null, []),
  (19, .iload_n 3, 20, 3, 0, .null, []),
  (20, .iconst 4, 21, 0, 0, .int 4, []),
  (21, .invokevirtual 57, 24, 54, 2, .null, [4]),
  (24, .ifCond .ne 5, 27, 29, 0, .null, []),
  (27, .iconst 1, 28, 0, 0, .int 1, []),
  (28, .ireturn, 29, 0, 0, .null, []),
  (29, .aload_n 0, 30, 0, 0, .null, []),
  (30, .iload_n 2, 31, 2, 0, .null, []),
  (31, .invokevirtual 103, 34, 55, 1, .null, [4]),
  (34, .iconst 1, 35, 0, 0, .int 1, []),
  (35, .if_icmp .eq 5, 38, 40, 0, .null, []),
  (38, .iconst 2, 39, 0, 0, .int 2, []),
  (39, .ireturn, 40, 0, 0, .null, []),
  (40, .iload 4, 42, 4, 0, .null, []),
  (42, .bipush 16, 44, 0, 0, .int 16, []),
  (44, .invokestatic 46, 47, 53, 2, .null, []),
  (47, .ifCond .ne 5, 50, 52, 0, .null, []),
  (50, .iconst 3, 51, 0, 0, .int 3, []),
  (51, .ireturn, 52, 0, 0, .null, []),
  (52, .aload_n 0, 53, 0, 0, .null, []),
  (53, .invokevirtual 211, 56, 66, 0, .null, [4]),
  (56, .ifCond .ne 5, 59, 61, 0, .null, []),
  (59, .iconst 4, 60, 0, 0, .int 4, []),
  (60, .ireturn, 61, 0, 0, .null, []),
  (61, .aload_n 0, 62, 0, 0, .null, []),
  (62, .getfield 9, 65, 4, 1, .null, []),
  (65, .iconst 4, 66, 0, 0, .int 4, []),
  (66, .iaload, 67, 0, 0, .null, []),
  (67, .aload_n 0, 68, 0, 0, .null, []),
  (68, .getfield 9, 71, 4, 1, .null, []),
  (71, .iconst 5, 72, 0, 0, .int 5, []),
  (72, .iaload, 73, 0, 0, .null, []),
  (73, .invokestatic 214, 76, 16, 2, .null, []),
  (76, .lstore 5, 78, 5, 0, .null, []),
  (78, .lload 5, 80, 5, 0, .null, []),
  (80, .lconst 0, 81, 0, 0, .long 0, []),
  (81, .lcmp, 82, 0, 0, .null, []),
  (82, .ifCond .eq 24, 85, 106, 0, .null, []),
  (85, .lload 5, 87, 5, 0, .null, []),
  (87, .aload_n 0, 88, 0, 0, .null, []),
  (88, .getfield 32, 91, 4, 0, .null, []),
  (91, .iload_n 3, 92, 3, 0, .null, []),
  (92, .aaload, 93, 0, 0, .null, []),
  (93, .iload 4, 95, 4, 0, .null, []),
  (95, .invokevirtual 193, 98, 14, 1, .null, [1]),
  (98, .lcmp, 99, 0, 0, .null, []),
  (99, .ifCond .ne 7, 102, 106, 0, .null, []),
  (102, .iconst 1, 103, 0, 0, .int 1, []),
  (103, .goto 4, 106, 107, 0, .null, []),
  (106, .iconst 0, 107, 0, 0, .int 0, []),
  (107, .istore 7, 109, 7, 0, .null, []),
  (109, .iload 7, 111, 7, 0, .null, []),
  (111, .ifCond .eq 25, 114, 136, 0, .null, []),
  (114, .aload_n 0, 115, 0, 0, .null, []),
  (115, .getfield 9, 118, 4, 1, .null, []),
  (118, .iconst 3, 119, 0, 0, .int 3, []),
  (119, .iaload, 120, 0, 0, .null, []),
  (120, .aload_n 0, 121, 0, 0, .null, []),
  (121, .getfield 32, 124, 4, 0, .null, []),
  (124, .iload_n 2, 125, 2, 0, .null, []),
  (125, .aaload, 126, 0, 0, .null, []),
  (126, .getfield 70, 129, 1, 6, .null, []),
  (129, .if_icmp .ne 7, 132, 136, 0, .null, []),
  (132, .iconst 0, 133, 0, 0, .int 0, []),
  (133, .goto 4, 136, 137, 0, .null, []),
  (136, .iconst 5, 137, 0, 0, .int 5, []),
  (137, .ireturn, 138, 0, 0, .null, [])])
def t_X4_isTagged : e_M := ((RX4, yX4_isTagged, cX4_isTagged, 3, (some FieldType.boolean)), [(0, .aload_n 0, 1, 0, 0, .null, []),
  (1, .getfield 42, 4, 4, 4, .null, []),
  (4, .aload_n 0, 5, 0, 0, .null, []),
  (5, .getfield 9, 8, 4, 1, .null, []),
  (8, .bipush 40, 10, 0, 0, .int 40, []),
  (10, .aload_n 0, 11, 0, 0, .null, []),
  (11, .getfield 13, 14, 4, 2, .null, []),
  (14, .iconst 0, 15, 0, 0, .int 0, []),
  (15, .invokevirtual 218, 18, 28, 4, .null, [3]),
  (18, .iconst 0, 19, 0, 0, .int 0, []),
  (19, .istore_n 1, 20, 1, 0, .null, []),
  (20, .iconst 0, 21, 0, 0, .int 0, []),
  (21, .istore_n 2, 22, 2, 0, .null, []),
  (22, .iload_n 2, 23, 2, 0, .null, []),
  (23, .bipush 8, 25, 0, 0, .int 8, []),
  (25, .if_icmp .ge 28, 28, 53, 0, .null, []),
  (28, .iload_n 1, 29, 1, 0, .null, []),
  (29, .aload_n 0, 30, 0, 0, .null, []),
  (30, .getfield 13, 33, 4, 2, .null, []),
  (33, .iload_n 2, 34, 2, 0, .null, []),
  (34, .iaload, 35, 0, 0, .null, []),
  (35, .aload_n 0, 36, 0, 0, .null, []),
  (36, .getfield 9, 39, 4, 1, .null, []),
  (39, .bipush 40, 41, 0, 0, .int 40, []),
  (41, .iload_n 2, 42, 2, 0, .null, []),
  (42, .iadd, 43, 0, 0, .null, []),
  (43, .iaload, 44, 0, 0, .null, []),
  (44, .ixor, 45, 0, 0, .null, []),
  (45, .ior, 46, 0, 0, .null, []),
  (46, .istore_n 1, 47, 1, 0, .null, []),
  (47, .iinc 2 1, 50, 2, 0, .int (1), []),
  (50, .goto (-28), 53, 22, 0, .null, []),
  (53, .iload_n 1, 54, 1, 0, .null, []),
  (54, .ifCond .ne 7, 57, 61, 0, .null, []),
  (57, .iconst 1, 58, 0, 0, .int 1, []),
  (58, .goto 4, 61, 62, 0, .null, []),
  (61, .iconst 0, 62, 0, 0, .int 0, []),
  (62, .ireturn, 63, 0, 0, .null, [])])
def t_X4_writeBlob : e_M := ((RX4, yX4_writeBlob, cX4_writeBlob, 4, (Option.none : Option FieldType)), [(0, .aload_n 0, 1, 0, 0, .null, []),
  (1, .getfield 9, 4, 4, 1, .null, []),
  (4, .iconst 0, 5, 0, 0, .int 0, []),
  (5, .aload_n 1, 6, 1, 0, .null, []),
  (6, .getfield 64, 9, 1, 2, .null, []),
  (9, .iastore, 10, 0, 0, .null, []),
  (10, .aload_n 0, 11, 0, 0, .null, []),
  (11, .getfield 9, 14, 4, 1, .null, []),
  (14, .iconst 1, 15, 0, 0, .int 1, []),
  (15, .aload_n 1, 16, 1, 0, .null, []),
  (16, .getfield 91, 19, 1, 4, .null, []),
  (19, .iastore, 20, 0, 0, .null, []),
  (20, .aload_n 0, 21, 0, 0, .null, []),
  (21, .getfield 9, 24, 4, 1, .null, []),
  (24, .iconst 2, 25, 0, 0, .int 2, []),
  (25, .aload_n 1, 26, 1, 0, .null, []),
  (26, .getfield 94, 29, 1, 5, .null, []),
  (29, .iastore, 30, 0, 0, .null, []),
  (30, .aload_n 0, 31, 0, 0, .null, []),
  (31, .getfield 9, 34, 4, 1, .null, []),
  (34, .iconst 3, 35, 0, 0, .int 3, []),
  (35, .aload_n 0, 36, 0, 0, .null, []),
  (36, .getfield 32, 39, 4, 0, .null, []),
  (39, .aload_n 1, 40, 1, 0, .null, []),
  (40, .getfield 183, 43, 1, 3, .null, []),
  (43, .aaload, 44, 0, 0, .null, []),
  (44, .getfield 70, 47, 1, 6, .null, []),
  (47, .iastore, 48, 0, 0, .null, []),
  (48, .aload_n 0, 49, 0, 0, .null, []),
  (49, .getfield 9, 52, 4, 1, .null, []),
  (52, .iconst 4, 53, 0, 0, .int 4, []),
  (53, .lload_n 2, 54, 2, 0, .null, []),
  (54, .bipush 32, 56, 0, 0, .int 32, []),
  (56, .lushr, 57, 0, 0, .null, []),
  (57, .l2i, 58, 0, 0, .null, []),
  (58, .iastore, 59, 0, 0, .null, []),
  (59, .aload_n 0, 60, 0, 0, .null, []),
  (60, .getfield 9, 63, 4, 1, .null, []),
  (63, .iconst 5, 64, 0, 0, .int 5, []),
  (64, .lload_n 2, 65, 2, 0, .null, []),
  (65, .l2i, 66, 0, 0, .null, []),
  (66, .iastore, 67, 0, 0, .null, []),
  (67, .aload_n 0, 68, 0, 0, .null, []),
  (68, .getfield 9, 71, 4, 1, .null, []),
  (71, .bipush 6, 73, 0, 0, .int 6, []),
  (73, .iconst 0, 74, 0, 0, .int 0, []),
  (74, .iastore, 75, 0, 0, .null, []),
  (75, .aload_n 0, 76, 0, 0, .null, []),
  (76, .getfield 9, 79, 4, 1, .null, []),
  (79, .bipush 7, 81, 0, 0, .int 7, []),
  (81, .iconst 0, 82, 0, 0, .int 0, []),
  (82, .iastore, 83, 0, 0, .null, []),
  (83, .aload_n 1, 84, 1, 0, .null, []),
  (84, .getfield 81, 87, 1, 0, .null, []),
  (87, .iconst 0, 88, 0, 0, .int 0, []),
  (88, .aload_n 0, 89, 0, 0, .null, []),
  (89, .getfield 9, 92, 4, 1, .null, []),
  (92, .bipush 8, 94, 0, 0, .int 8, []),
  (94, .bipush 32, 96, 0, 0, .int 32, []),
  (96, .invokestatic 97, 99, 1001, 0, .null, []),
  (99, .aload_n 0, 100, 0, 0, .null, []),
  (100, .getfield 42, 103, 4, 4, .null, []),
  (103, .aload_n 0, 104, 0, 0, .null, []),
  (104, .getfield 9, 107, 4, 1, .null, []),
  (107, .bipush 8, 109, 0, 0, .int 8, []),
  (109, .aload_n 0, 110, 0, 0, .null, []),
  (110, .getfield 9, 113, 4, 1, .null, []),
  (113, .iconst 4, 114, 0, 0, .int 4, []),
  (114, .iaload, 115, 0, 0, .null, []),
  (115, .aload_n 0, 116, 0, 0, .null, []),
  (116, .getfield 9, 119, 4, 1, .null, []),
  (119, .iconst 5, 120, 0, 0, .int 5, []),
  (120, .iaload, 121, 0, 0, .null, []),
  (121, .invokevirtual 222, 124, 30, 4, .null, [3]),
  (124, .aload_n 0, 125, 0, 0, .null, []),
  (125, .getfield 42, 128, 4, 4, .null, []),
  (128, .aload_n 0, 129, 0, 0, .null, []),
  (129, .getfield 9, 132, 4, 1, .null, []),
  (132, .bipush 40, 134, 0, 0, .int 40, []),
  (134, .aload_n 0, 135, 0, 0, .null, []),
  (135, .getfield 9, 138, 4, 1, .null, []),
  (138, .bipush 40, 140, 0, 0, .int 40, []),
  (140, .invokevirtual 218, 143, 28, 4, .null, [3]),
  (143, .return_, 144, 0, 0, .null, [])])
def t_X4_readBlob : e_M := ((RX4, yX4_readBlob, cX4_readBlob, 3, (Option.none : Option FieldType)), [(0, .aload_n 0, 1, 0, 0, .null, []),
  (1, .getfield 9, 4, 4, 1, .null, []),
  (4, .iconst 0, 5, 0, 0, .int 0, []),
  (5, .iaload, 6, 0, 0, .null, []),
  (6, .iconst 2, 7, 0, 0, .int 2, []),
  (7, .if_icmp .ne 12, 10, 19, 0, .null, []),
  (10, .aload_n 1, 11, 1, 0, .null, []),
  (11, .iconst 2, 12, 0, 0, .int 2, []),
  (12, .iload_n 2, 13, 2, 0, .null, []),
  (13, .invokevirtual 77, 16, 10, 2, .null, [1]),
  (16, .goto 29, 19, 45, 0, .null, []),
  (19, .aload_n 1, 20, 1, 0, .null, []),
  (20, .iconst 3, 21, 0, 0, .int 3, []),
  (21, .iload_n 2, 22, 2, 0, .null, []),
  (22, .invokevirtual 77, 25, 10, 2, .null, [1]),
  (25, .aload_n 1, 26, 1, 0, .null, []),
  (26, .aload_n 0, 27, 0, 0, .null, []),
  (27, .getfield 9, 30, 4, 1, .null, []),
  (30, .iconst 1, 31, 0, 0, .int 1, []),
  (31, .iaload, 32, 0, 0, .null, []),
  (32, .putfield 91, 35, 1, 4, .int 0, []),
  (35, .aload_n 1, 36, 1, 0, .null, []),
  (36, .aload_n 0, 37, 0, 0, .null, []),
  (37, .getfield 9, 40, 4, 1, .null, []),
  (40, .iconst 2, 41, 0, 0, .int 2, []),
  (41, .iaload, 42, 0, 0, .null, []),
  (42, .putfield 94, 45, 1, 5, .int 0, []),
  (45, .aload_n 0, 46, 0, 0, .null, []),
  (46, .getfield 9, 49, 4, 1, .null, []),
  (49, .bipush 8, 51, 0, 0, .int 8, []),
  (51, .aload_n 1, 52, 1, 0, .null, []),
  (52, .getfield 81, 55, 1, 0, .null, []),
  (55, .iconst 0, 56, 0, 0, .int 0, []),
  (56, .bipush 32, 58, 0, 0, .int 32, []),
  (58, .invokestatic 97, 61, 1001, 0, .null, []),
  (61, .aload_n 0, 62, 0, 0, .null, []),
  (62, .getfield 42, 65, 4, 4, .null, []),
  (65, .aload_n 1, 66, 1, 0, .null, []),
  (66, .getfield 81, 69, 1, 0, .null, []),
  (69, .iconst 0, 70, 0, 0, .int 0, []),
  (70, .aload_n 0, 71, 0, 0, .null, []),
  (71, .getfield 9, 74, 4, 1, .null, []),
  (74, .iconst 4, 75, 0, 0, .int 4, []),
  (75, .iaload, 76, 0, 0, .null, []),
  (76, .aload_n 0, 77, 0, 0, .null, []),
  (77, .getfield 9, 80, 4, 1, .null, []),
  (80, .iconst 5, 81, 0, 0, .int 5, []),
  (81, .iaload, 82, 0, 0, .null, []),
  (82, .invokevirtual 222, 85, 30, 4, .null, [3]),
  (85, .return_, 86, 0, 0, .null, [])])
def t_X5_init : e_M := ((RX5, yX5_init, cX5_init, 5, (Option.none : Option FieldType)), [(0, .aload_n 0, 1, 0, 0, .null, []),
  (1, .invokespecial 1, 4, 1000, 0, .null, []),
  (4, .aload_n 0, 5, 0, 0, .null, []),
  (5, .bipush 40, 7, 0, 0, .int 40, []),
  (7, .newarray .int, 9, 0, 0, .null, []),
  (9, .putfield 9, 12, 5, 2, .null, []),
  (12, .aload_n 0, 13, 0, 0, .null, []),
  (13, .bipush 40, 15, 0, 0, .int 40, []),
  (15, .newarray .int, 17, 0, 0, .null, []),
  (17, .putfield 13, 20, 5, 3, .null, []),
  (20, .aload_n 0, 21, 0, 0, .null, []),
  (21, .bipush 40, 23, 0, 0, .int 40, []),
  (23, .newarray .int, 25, 0, 0, .null, []),
  (25, .putfield 16, 28, 5, 4, .null, []),
  (28, .aload_n 0, 29, 0, 0, .null, []),
  (29, .bipush 40, 31, 0, 0, .int 40, []),
  (31, .newarray .int, 33, 0, 0, .null, []),
  (33, .putfield 19, 36, 5, 5, .null, []),
  (36, .aload_n 0, 37, 0, 0, .null, []),
  (37, .bipush 40, 39, 0, 0, .int 40, []),
  (39, .newarray .int, 41, 0, 0, .null, []),
  (41, .putfield 22, 44, 5, 6, .null, []),
  (44, .aload_n 0, 45, 0, 0, .null, []),
  (45, .bipush 40, 47, 0, 0, .int 40, []),
  (47, .newarray .int, 49, 0, 0, .null, []),
  (49, .putfield 25, 52, 5, 7, .null, []),
  (52, .aload_n 0, 53, 0, 0, .null, []),
  (53, .sipush 1280, 56, 0, 0, .int 1280, []),
  (56, .newarray .int, 58, 0, 0, .null, []),
  (58, .putfield 28, 61, 5, 8, .null, []),
  (61, .aload_n 0, 62, 0, 0, .null, []),
  (62, .sipush 320, 65, 0, 0, .int 320, []),
  (65, .newarray .int, 67, 0, 0, .null, []),
  (67, .putfield 31, 70, 5, 9, .null, []),
  (70, .aload_n 0, 71, 0, 0, .null, []),
  (71, .bipush 64, 73, 0, 0, .int 64, []),
  (73, .newarray .int, 75, 0, 0, .null, []),
  (75, .putfield 34, 78, 5, 10, .null, []),
  (78, .aload_n 0, 79, 0, 0, .null, []),
  (79, .bipush 8, 81, 0, 0, .int 8, []),
  (81, .newarray .int, 83, 0, 0, .null, []),
  (83, .putfield 37, 86, 5, 11, .null, []),
  (86, .aload_n 0, 87, 0, 0, .null, []),
  (87, .bipush 8, 89, 0, 0, .int 8, []),
  (89, .newarray .int, 91, 0, 0, .null, []),
  (91, .putfield 40, 94, 5, 12, .null, []),
  (94, .aload_n 0, 95, 0, 0, .null, []),
  (95, .bipush 80, 97, 0, 0, .int 80, []),
  (97, .newarray .int, 99, 0, 0, .null, []),
  (99, .putfield 43, 102, 5, 18, .null, []),
  (102, .aload_n 0, 103, 0, 0, .null, []),
  (103, .bipush 8, 105, 0, 0, .int 8, []),
  (105, .newarray .int, 107, 0, 0, .null, []),
  (107, .putfield 46, 110, 5, 19, .null, []),
  (110, .aload_n 0, 111, 0, 0, .null, []),
  (111, .bipush 64, 113, 0, 0, .int 64, []),
  (113, .newarray .int, 115, 0, 0, .null, []),
  (115, .putfield 49, 118, 5, 20, .null, []),
  (118, .aload_n 0, 119, 0, 0, .null, []),
  (119, .bipush 8, 121, 0, 0, .int 8, []),
  (121, .newarray .int, 123, 0, 0, .null, []),
  (123, .putfield 52, 126, 5, 21, .null, []),
  (126, .aload_n 0, 127, 0, 0, .null, []),
  (127, .bipush 16, 129, 0, 0, .int 16, []),
  (129, .newarray .int, 131, 0, 0, .null, []),
  (131, .putfield 55, 134, 5, 22, .null, []),
  (134, .aload_n 0, 135, 0, 0, .null, []),
  (135, .bipush 16, 137, 0, 0, .int 16, []),
  (137, .newarray .int, 139, 0, 0, .null, []),
  (139, .putfield 58, 142, 5, 23, .null, []),
  (142, .aload_n 0, 143, 0, 0, .null, []),
  (143, .bipush 8, 145, 0, 0, .int 8, []),
  (145, .newarray .int, 147, 0, 0, .null, []),
  (147, .putfield 61, 150, 5, 24, .null, []),
  (150, .aload_n 0, 151, 0, 0, .null, []),
  (151, .iconst (-1), 152, 0, 0, .int (-1), []),
  (152, .putfield 64, 155, 5, 27, .int 0, []),
  (155, .aload_n 0, 156, 0, 0, .null, []),
  (156, .iconst (-1), 157, 0, 0, .int (-1), []),
  (157, .putfield 68, 160, 5, 29, .int 0, []),
  (160, .aload_n 0, 161, 0, 0, .null, []),
  (161, .iload_n 1, 162, 1, 0, .null, []),
  (162, .bipush 8, 164, 0, 0, .int 8, []),
  (164, .if_icmp .lt 9, 167, 173, 0, .null, []),
  (167, .iload_n 1, 168, 1, 0, .null, []),
  (168, .bipush 40, 170, 0, 0, .int 40, []),
  (170, .if_icmp .le 8, 173, 178, 0, .null, []),
  (173, .bipush 16, 175, 0, 0, .int 16, []),
  (175, .goto 4, 178, 179, 0, .null, []),
  (178, .iload_n 1, 179, 1, 0, .null, []),
  (179, .putfield 71, 182, 5, 1, .int 0, []),
  (182, .iconst 0, 183, 0, 0, .int 0, []),
  (183, .istore 4, 185, 4, 0, .null, []),
  (185, .iload 4, 187, 4, 0, .null, []),
  (187, .bipush 40, 189, 0, 0, .int 40, []),
  (189, .if_icmp .ge 17, 192, 206, 0, .null, []),
  (192, .aload_n 0, 193, 0, 0, .null, []),
  (193, .getfield 13, 196, 5, 3, .null, []),
  (196, .iload 4, 198, 4, 0, .null, []),
  (198, .iconst (-1), 199, 0, 0, .int (-1), []),
  (199, .iastore, 200, 0, 0, .null, []),
  (200, .iinc 4 1, 203, 4, 0, .int (1), []),
  (203, .goto (-18), 206, 185, 0, .null, []),
  (206, .aload_n 0, 207, 0, 0, .null, []),
  (207, .getfield 43, 210, 5, 18, .null, []),
  (210, .iconst 0, 211, 0, 0, .int 0, []),
  (211, .lload_n 2, 212, 2, 0, .null, []),
  (212, .bipush 32, 214, 0, 0, .int 32, []),
  (214, .lshr, 215, 0, 0, .null, []),
  (215, .l2i, 216, 0, 0, .null, []),
  (216, .iastore, 217, 0, 0, .null, []),
  (217, .aload_n 0, 218, 0, 0, .null, []),
  (218, .getfield 43, 221, 5, 18, .null, []),
  (221, .iconst 1, 222, 0, 0, .int 1, []),
  (222, .lload_n 2, 223, 2, 0, .null, []),
  (223, .l2i, 224, 0, 0, .null, []),
  (224, .iastore, 225, 0, 0, .null, []),
  (225, .aload_n 0, 226, 0, 0, .null, []),
  (226, .getfield 43, 229, 5, 18, .null, []),
  (229, .iconst 2, 230, 0, 0, .int 2, []),
  (230, .iconst 1, 231, 0, 0, .int 1, []),
  (231, .iastore, 232, 0, 0, .null, []),
  (232, .aload_n 0, 233, 0, 0, .null, []),
  (233, .iconst 3, 234, 0, 0, .int 3, []),
  (234, .invokevirtual 74, 237, 72, 1, .null, [5]),
  (237, .iconst 0, 238, 0, 0, .int 0, []),
  (238, .istore 4, 240, 4, 0, .null, []),
  (240, .iload 4, 242, 4, 0, .null, []),
  (242, .bipush 8, 244, 0, 0, .int 8, []),
  (244, .if_icmp .ge 23, 247, 267, 0, .null, []),
  (247, .aload_n 0, 248, 0, 0, .null, []),
  (248, .getfield 37, 251, 5, 11, .null, []),
  (251, .iload 4, 253, 4, 0, .null, []),
  (253, .aload_n 0, 254, 0, 0, .null, []),
  (254, .getfield 46, 257, 5, 19, .null, []),
  (257, .iload 4, 259, 4, 0, .null, []),
  (259, .iaload, 260, 0, 0, .null, []),
  (260, .iastore, 261, 0, 0, .null, []),
  (261, .iinc 4 1, 264, 4, 0, .int (1), []),
  (264, .goto (-24), 267, 240, 0, .null, []),
  (267, .aload_n 0, 268, 0, 0, .null, []),
  (268, .getfield 43, 271, 5, 18, .null, []),
  (271, .iconst 2, 272, 0, 0, .int 2, []),
  (272, .iconst 2, 273, 0, 0, .int 2, []),
  (273, .iastore, 274, 0, 0, .null, []),
  (274, .aload_n 0, 275, 0, 0, .null, []),
  (275, .iconst 3, 276, 0, 0, .int 3, []),
  (276, .invokevirtual 74, 279, 72, 1, .null, [5]),
  (279, .iconst 0, 280, 0, 0, .int 0, []),
  (280, .istore 4, 282, 4, 0, .null, []),
  (282, .iload 4, 284, 4, 0, .null, []),
  (284, .bipush 8, 286, 0, 0, .int 8, []),
  (286, .if_icmp .ge 23, 289, 309, 0, .null, []),
  (289, .aload_n 0, 290, 0, 0, .null, []),
  (290, .getfield 40, 293, 5, 12, .null, []),
  (293, .iload 4, 295, 4, 0, .null, []),
  (295, .aload_n 0, 296, 0, 0, .null, []),
  (296, .getfield 46, 299, 5, 19, .null, []),
  (299, .iload 4, 301, 4, 0, .null, []),
  (301, .iaload, 302, 0, 0, .null, []),
  (302, .iastore, 303, 0, 0, .null, []),
  (303, .iinc 4 1, 306, 4, 0, .int (1), []),
  (306, .goto (-24), 309, 282, 0, .null, []),
  (309, .return_, 310, 0, 0, .null, [])])
def t_X5_thrown : e_M := ((RX5, yX5_thrown, cX5_thrown, 1, (some FieldType.int)), [(0, .aload_n 0, 1, 0, 0, .null, []),
  (1, .getfield 78, 4, 5, 0, .null, []),
  (4, .ireturn, 5, 0, 0, .null, [])])
def t_X5_right : e_M := ((RX5, yX5_right, cX5_right, 2, (some FieldType.int)), [(0, .iload_n 0, 1, 0, 0, .null, []),
  (1, .iload_n 1, 2, 1, 0, .null, []),
  (2, .iushr, 3, 0, 0, .null, []),
  (3, .iload_n 0, 4, 0, 0, .null, []),
  (4, .bipush 32, 6, 0, 0, .int 32, []),
  (6, .iload_n 1, 7, 1, 0, .null, []),
  (7, .isub, 8, 0, 0, .null, []),
  (8, .ishl, 9, 0, 0, .null, []),
  (9, .ior, 10, 0, 0, .null, []),
  (10, .ireturn, 11, 0, 0, .null, [])])
def t_X5_digest : e_M := ((RX5, yX5_digest, cX5_digest, 4, (Option.none : Option FieldType)), [(0, .iload_n 1, 1, 1, 0, .null, []),
  (1, .iconst 3, 2, 0, 0, .int 3, []),
  (2, .iadd, 3, 0, 0, .null, []),
  (3, .bipush 15, 5, 0, 0, .int 15, []),
  (5, .iadd, 6, 0, 0, .null, []),
  (6, .bipush 16, 8, 0, 0, .int 16, []),
  (8, .idiv, 9, 0, 0, .null, []),
  (9, .istore_n 2, 10, 2, 0, .null, []),
  (10, .iload_n 1, 11, 1, 0, .null, []),
  (11, .istore_n 3, 12, 3, 0, .null, []),
  (12, .iload_n 3, 13, 3, 0, .null, []),
  (13, .bipush 16, 15, 0, 0, .int 16, []),
  (15, .iload_n 2, 16, 2, 0, .null, []),
  (16, .imul, 17, 0, 0, .null, []),
  (17, .if_icmp .ge 16, 20, 33, 0, .null, []),
  (20, .aload_n 0, 21, 0, 0, .null, []),
  (21, .getfield 43, 24, 5, 18, .null, []),
  (24, .iload_n 3, 25, 3, 0, .null, []),
  (25, .iconst 0, 26, 0, 0, .int 0, []),
  (26, .iastore, 27, 0, 0, .null, []),
  (27, .iinc 3 1, 30, 3, 0, .int (1), []),
  (30, .goto (-18), 33, 12, 0, .null, []),
  (33, .aload_n 0, 34, 0, 0, .null, []),
  (34, .getfield 43, 37, 5, 18, .null, []),
  (37, .iload_n 1, 38, 1, 0, .null, []),
  (38, .ldc 81, 40, 0, 0, .int (-2147483648), []),
  (40, .iastore, 41, 0, 0, .null, []),
  (41, .aload_n 0, 42, 0, 0, .null, []),
  (42, .getfield 43, 45, 5, 18, .null, []),
  (45, .bipush 16, 47, 0, 0, .int 16, []),
  (47, .iload_n 2, 48, 2, 0, .null, []),
  (48, .imul, 49, 0, 0, .null, []),
  (49, .iconst 1, 50, 0, 0, .int 1, []),
  (50, .isub, 51, 0, 0, .null, []),
  (51, .bipush 32, 53, 0, 0, .int 32, []),
  (53, .iload_n 1, 54, 1, 0, .null, []),
  (54, .imul, 55, 0, 0, .null, []),
  (55, .iastore, 56, 0, 0, .null, []),
  (56, .iconst 0, 57, 0, 0, .int 0, []),
  (57, .istore_n 3, 58, 3, 0, .null, []),
  (58, .iload_n 3, 59, 3, 0, .null, []),
  (59, .bipush 8, 61, 0, 0, .int 8, []),
  (61, .if_icmp .ge 20, 64, 81, 0, .null, []),
  (64, .aload_n 0, 65, 0, 0, .null, []),
  (65, .getfield 46, 68, 5, 19, .null, []),
  (68, .iload_n 3, 69, 3, 0, .null, []),
  (69, .getstatic 82, 72, 3, 0, .null, []),
  (72, .iload_n 3, 73, 3, 0, .null, []),
  (73, .iaload, 74, 0, 0, .null, []),
  (74, .iastore, 75, 0, 0, .null, []),
  (75, .iinc 3 1, 78, 3, 0, .int (1), []),
  (78, .goto (-20), 81, 58, 0, .null, []),
  (81, .iconst 0, 82, 0, 0, .int 0, []),
  (82, .istore_n 3, 83, 3, 0, .null, []),
  (83, .iload_n 3, 84, 3, 0, .null, []),
  (84, .iload_n 2, 85, 2, 0, .null, []),
  (85, .if_icmp .ge 17, 88, 102, 0, .null, []),
  (88, .aload_n 0, 89, 0, 0, .null, []),
  (89, .bipush 16, 91, 0, 0, .int 16, []),
  (91, .iload_n 3, 92, 3, 0, .null, []),
  (92, .imul, 93, 0, 0, .null, []),
  (93, .invokevirtual 85, 96, 73, 1, .null, [5]),
  (96, .iinc 3 1, 99, 3, 0, .int (1), []),
  (99, .goto (-16), 102, 83, 0, .null, []),
  (102, .return_, 103, 0, 0, .null, [])])
def t_X5_block : e_M := ((RX5, yX5_block, cX5_block, 8, (Option.none : Option FieldType)), [(0, .iconst 0, 1, 0, 0, .int 0, []),
  (1, .istore_n 2, 2, 2, 0, .null, []),
  (2, .iload_n 2, 3, 2, 0, .null, []),
  (3, .bipush 64, 5, 0, 0, .int 64, []),
  (5, .if_icmp .ge 117, 8, 122, 0, .null, []),
  (8, .iload_n 2, 9, 2, 0, .null, []),
  (9, .bipush 16, 11, 0, 0, .int 16, []),
  (11, .if_icmp .ge 20, 14, 31, 0, .null, []),
  (14, .aload_n 0, 15, 0, 0, .null, []),
  (15, .getfield 49, 18, 5, 20, .null, []),
  (18, .iload_n 2, 19, 2, 0, .null, []),
  (19, .aload_n 0, 20, 0, 0, .null, []),
  (20, .getfield 43, 23, 5, 18, .null, []),
  (23, .iload_n 1, 24, 1, 0, .null, []),
  (24, .iload_n 2, 25, 2, 0, .null, []),
  (25, .iadd, 26, 0, 0, .null, []),
  (26, .iaload, 27, 0, 0, .null, []),
  (27, .iastore, 28, 0, 0, .null, []),
  (28, .goto 88, 31, 116, 0, .null, []),
  (31, .aload_n 0, 32, 0, 0, .null, []),
  (32, .getfield 49, 35, 5, 20, .null, []),
  (35, .iload_n 2, 36, 2, 0, .null, []),
  (36, .bipush 15, 38, 0, 0, .int 15, []),
  (38, .isub, 39, 0, 0, .null, []),
  (39, .iaload, 40, 0, 0, .null, []),
  (40, .istore_n 3, 41, 3, 0, .null, []),
  (41, .aload_n 0, 42, 0, 0, .null, []),
  (42, .getfield 49, 45, 5, 20, .null, []),
  (45, .iload_n 2, 46, 2, 0, .null, []),
  (46, .iconst 2, 47, 0, 0, .int 2, []),
  (47, .isub, 48, 0, 0, .null, []),
  (48, .iaload, 49, 0, 0, .null, []),
  (49, .istore 4, 51, 4, 0, .null, []),
  (51, .aload_n 0, 52, 0, 0, .null, []),
  (52, .getfield 49, 55, 5, 20, .null, []),
  (55, .iload_n 2, 56, 2, 0, .null, []),
  (56, .aload_n 0, 57, 0, 0, .null, []),
  (57, .getfield 49, 60, 5, 20, .null, []),
  (60, .iload_n 2, 61, 2, 0, .null, []),
  (61, .bipush 16, 63, 0, 0, .int 16, []),
  (63, .isub, 64, 0, 0, .null, []),
  (64, .iaload, 65, 0, 0, .null, []),
  (65, .iload_n 3, 66, 3, 0, .null, []),
  (66, .bipush 7, 68, 0, 0, .int 7, []),
  (68, .invokestatic 88, 71, 71, 2, .null, []),
  (71, .iload_n 3, 72, 3, 0, .null, []),
  (72, .bipush 18, 74, 0, 0, .int 18, []),
  (74, .invokestatic 88, 77, 71, 2, .null, []),
  (77, .ixor, 78, 0, 0, .null, []),
  (78, .iload_n 3, 79, 3, 0, .null, []),
  (79, .iconst 3, 80, 0, 0, .int 3, []),
  (80, .iushr, 81, 0, 0, .null, []),
  (81, .ixor, 82, 0, 0, .null, []),
  (82, .iadd, 83, 0, 0, .null, []),
  (83, .aload_n 0, 84, 0, 0, .null, []),
  (84, .getfield 49, 87, 5, 20, .null, []),
  (87, .iload_n 2, 88, 2, 0, .null, []),
  (88, .bipush 7, 90, 0, 0, .int 7, []),
  (90, .isub, 91, 0, 0, .null, []),
  (91, .iaload, 92, 0, 0, .null, []),
  (92, .iadd, 93, 0, 0, .null, []),
  (93, .iload 4, 95, 4, 0, .null, []),
  (95, .bipush 17, 97, 0, 0, .int 17, []),
  (97, .invokestatic 88, 100, 71, 2, .null, []),
  (100, .iload 4, 102, 4, 0, .null, []),
  (102, .bipush 19, 104, 0, 0, .int 19, []),
  (104, .invokestatic 88, 107, 71, 2, .null, []),
  (107, .ixor, 108, 0, 0, .null, []),
  (108, .iload 4, 110, 4, 0, .null, []),
  (110, .bipush 10, 112, 0, 0, .int 10, []),
  (112, .iushr, 113, 0, 0, .null, []),
  (113, .ixor, 114, 0, 0, .null, []),
  (114, .iadd, 115, 0, 0, .null, []),
  (115, .iastore, 116, 0, 0, .null, []),
  (116, .iinc 2 1, 119, 2, 0, .int (1), []),
  (119, .goto (-117), 122, 2, 0, .null, []),
  (122, .iconst 0, 123, 0, 0, .int 0, []),
  (123, .istore_n 2, 124, 2, 0, .null, []),
  (124, .iload_n 2, 125, 2, 0, .null, []),
  (125, .bipush 8, 127, 0, 0, .int 8, []),
  (127, .if_icmp .ge 21, 130, 148, 0, .null, []),
  (130, .aload_n 0, 131, 0, 0, .null, []),
  (131, .getfield 52, 134, 5, 21, .null, []),
  (134, .iload_n 2, 135, 2, 0, .null, []),
  (135, .aload_n 0, 136, 0, 0, .null, []),
  (136, .getfield 46, 139, 5, 19, .null, []),
  (139, .iload_n 2, 140, 2, 0, .null, []),
  (140, .iaload, 141, 0, 0, .null, []),
  (141, .iastore, 142, 0, 0, .null, []),
  (142, .iinc 2 1, 145, 2, 0, .int (1), []),
  (145, .goto (-21), 148, 124, 0, .null, []),
  (148, .iconst 0, 149, 0, 0, .int 0, []),
  (149, .istore_n 2, 150, 2, 0, .null, []),
  (150, .iload_n 2, 151, 2, 0, .null, []),
  (151, .bipush 64, 153, 0, 0, .int 64, []),
  (153, .if_icmp .ge 199, 156, 352, 0, .null, []),
  (156, .aload_n 0, 157, 0, 0, .null, []),
  (157, .getfield 52, 160, 5, 21, .null, []),
  (160, .iconst 0, 161, 0, 0, .int 0, []),
  (161, .iaload, 162, 0, 0, .null, []),
  (162, .istore_n 3, 163, 3, 0, .null, []),
  (163, .aload_n 0, 164, 0, 0, .null, []),
  (164, .getfield 52, 167, 5, 21, .null, []),
  (167, .iconst 4, 168, 0, 0, .int 4, []),
  (168, .iaload, 169, 0, 0, .null, []),
  (169, .istore 4, 171, 4, 0, .null, []),
  (171, .aload_n 0, 172, 0, 0, .null, []),
  (172, .getfield 52, 175, 5, 21, .null, []),
  (175, .bipush 7, 177, 0, 0, .int 7, []),
  (177, .iaload, 178, 0, 0, .null, []),
  (178, .iload 4, 180, 4, 0, .null, []),
  (180, .bipush 6, 182, 0, 0, .int 6, []),
  (182, .invokestatic 88, 185, 71, 2, .null, []),
  (185, .iload 4, 187, 4, 0, .null, []),
  (187, .bipush 11, 189, 0, 0, .int 11, []),
  (189, .invokestatic 88, 192, 71, 2, .null, []),
  (192, .ixor, 193, 0, 0, .null, []),
  (193, .iload 4, 195, 4, 0, .null, []),
  (195, .bipush 25, 197, 0, 0, .int 25, []),
  (197, .invokestatic 88, 200, 71, 2, .null, []),
  (200, .ixor, 201, 0, 0, .null, []),
  (201, .iadd, 202, 0, 0, .null, []),
  (202, .iload 4, 204, 4, 0, .null, []),
  (204, .aload_n 0, 205, 0, 0, .null, []),
  (205, .getfield 52, 208, 5, 21, .null, []),
  (208, .iconst 5, 209, 0, 0, .int 5, []),
  (209, .iaload, 210, 0, 0, .null, []),
  (210, .iand, 211, 0, 0, .null, []),
  (211, .iload 4, 213, 4, 0, .null, []),
  (213, .iconst (-1), 214, 0, 0, .int (-1), []),
  (214, .ixor, 215, 0, 0, .null, []),
  (215, .aload_n 0, 216, 0, 0, .null, []),
  (216, .getfield 52, 219, 5, 21, .null, []),
  (219, .bipush 6, 221, 0, 0, .int 6, []),
  (221, .iaload, 222, 0, 0, .null, []),
  (222, .iand, 223, 0, 0, .null, []),
  (223, .ixor, 224, 0, 0, .null, []),
  (224, .iadd, 225, 0, 0, .null, []),
  (225, .getstatic 92, 228, 4, 0, .null, []),
  (228, .iload_n 2, 229, 2, 0, .null, []),
  (229, .iaload, 230, 0, 0, .null, []),
  (230, .iadd, 231, 0, 0, .null, []),
  (231, .aload_n 0, 232, 0, 0, .null, []),
  (232, .getfield 49, 235, 5, 20, .null, []),
  (235, .iload_n 2, 236, 2, 0, .null, []),
  (236, .iaload, 237, 0, 0, .null, []),
  (237, .iadd, 238, 0, 0, .null, []),
  (238, .istore 5, 240, 5, 0, .null, []),
  (240, .iload_n 3, 241, 3, 0, .null, []),
  (241, .iconst 2, 242, 0, 0, .int 2, []),
  (242, .invokestatic 88, 245, 71, 2, .null, []),
  (245, .iload_n 3, 246, 3, 0, .null, []),
  (246, .bipush 13, 248, 0, 0, .int 13, []),
  (248, .invokestatic 88, 251, 71, 2, .null, []),
  (251, .ixor, 252, 0, 0, .null, []),
  (252, .iload_n 3, 253, 3, 0, .null, []),
  (253, .bipush 22, 255, 0, 0, .int 22, []),
  (255, .invokestatic 88, 258, 71, 2, .null, []),
  (258, .ixor, 259, 0, 0, .null, []),
  (259, .iload_n 3, 260, 3, 0, .null, []),
  (260, .aload_n 0, 261, 0, 0, .null, []),
  (261, .getfield 52, 264, 5, 21, .null, []),
  (264, .iconst 1, 265, 0, 0, .int 1, []),
  (265, .iaload, 266, 0, 0, .null, []),
  (266, .iand, 267, 0, 0, .null, []),
  (267, .iload_n 3, 268, 3, 0, .null, []),
  (268, .aload_n 0, 269, 0, 0, .null, []),
  (269, .getfield 52, 272, 5, 21, .null, []),
  (272, .iconst 2, 273, 0, 0, .int 2, []),
  (273, .iaload, 274, 0, 0, .null, []),
  (274, .iand, 275, 0, 0, .null, []),
  (275, .ixor, 276, 0, 0, .null, []),
  (276, .aload_n 0, 277, 0, 0, .null, []),
  (277, .getfield 52, 280, 5, 21, .null, []),
  (280, .iconst 1, 281, 0, 0, .int 1, []),
  (281, .iaload, 282, 0, 0, .null, []),
  (282, .aload_n 0, 283, 0, 0, .null, []),
  (283, .getfield 52, 286, 5, 21, .null, []),
  (286, .iconst 2, 287, 0, 0, .int 2, []),
  (287, .iaload, 288, 0, 0, .null, []),
  (288, .iand, 289, 0, 0, .null, []),
  (289, .ixor, 290, 0, 0, .null, []),
  (290, .iadd, 291, 0, 0, .null, []),
  (291, .istore 6, 293, 6, 0, .null, []),
  (293, .bipush 7, 295, 0, 0, .int 7, []),
  (295, .istore 7, 297, 7, 0, .null, []),
  (297, .iload 7, 299, 7, 0, .null, []),
  (299, .ifCond .le 25, 302, 324, 0, .null, []),
  (302, .aload_n 0, 303, 0, 0, .null, []),
  (303, .getfield 52, 306, 5, 21, .null, []),
  (306, .iload 7, 308, 7, 0, .null, []),
  (308, .aload_n 0, 309, 0, 0, .null, []),
  (309, .getfield 52, 312, 5, 21, .null, []),
  (312, .iload 7, 314, 7, 0, .null, []),
  (314, .iconst 1, 315, 0, 0, .int 1, []),
  (315, .isub, 316, 0, 0, .null, []),
  (316, .iaload, 317, 0, 0, .null, []),
  (317, .iastore, 318, 0, 0, .null, []),
  (318, .iinc 7 (-1), 321, 7, 0, .int (-1), []),
  (321, .goto (-24), 324, 297, 0, .null, []),
  (324, .aload_n 0, 325, 0, 0, .null, []),
  (325, .getfield 52, 328, 5, 21, .null, []),
  (328, .iconst 4, 329, 0, 0, .int 4, []),
  (329, .dup2, 330, 0, 0, .null, []),
  (330, .iaload, 331, 0, 0, .null, []),
  (331, .iload 5, 333, 5, 0, .null, []),
  (333, .iadd, 334, 0, 0, .null, []),
  (334, .iastore, 335, 0, 0, .null, []),
  (335, .aload_n 0, 336, 0, 0, .null, []),
  (336, .getfield 52, 339, 5, 21, .null, []),
  (339, .iconst 0, 340, 0, 0, .int 0, []),
  (340, .iload 5, 342, 5, 0, .null, []),
  (342, .iload 6, 344, 6, 0, .null, []),
  (344, .iadd, 345, 0, 0, .null, []),
  (345, .iastore, 346, 0, 0, .null, []),
  (346, .iinc 2 1, 349, 2, 0, .int (1), []),
  (349, .goto (-199), 352, 150, 0, .null, []),
  (352, .iconst 0, 353, 0, 0, .int 0, []),
  (353, .istore_n 2, 354, 2, 0, .null, []),
  (354, .iload_n 2, 355, 2, 0, .null, []),
  (355, .bipush 8, 357, 0, 0, .int 8, []),
  (357, .if_icmp .ge 24, 360, 381, 0, .null, []),
  (360, .aload_n 0, 361, 0, 0, .null, []),
  (361, .getfield 46, 364, 5, 19, .null, []),
  (364, .iload_n 2, 365, 2, 0, .null, []),
  (365, .dup2, 366, 0, 0, .null, []),
  (366, .iaload, 367, 0, 0, .null, []),
  (367, .aload_n 0, 368, 0, 0, .null, []),
  (368, .getfield 52, 371, 5, 21, .null, []),
  (371, .iload_n 2, 372, 2, 0, .null, []),
  (372, .iaload, 373, 0, 0, .null, []),
  (373, .iadd, 374, 0, 0, .null, []),
  (374, .iastore, 375, 0, 0, .null, []),
  (375, .iinc 2 1, 378, 2, 0, .int (1), []),
  (378, .goto (-24), 381, 354, 0, .null, []),
  (381, .return_, 382, 0, 0, .null, [])])
def t_X5_tag : e_M := ((RX5, yX5_tag, cX5_tag, 2, (Option.none : Option FieldType)), [(0, .iconst 0, 1, 0, 0, .int 0, []),
  (1, .istore_n 1, 2, 1, 0, .null, []),
  (2, .iload_n 1, 3, 1, 0, .null, []),
  (3, .bipush 16, 5, 0, 0, .int 16, []),
  (5, .if_icmp .ge 34, 8, 39, 0, .null, []),
  (8, .aload_n 0, 9, 0, 0, .null, []),
  (9, .getfield 43, 12, 5, 18, .null, []),
  (12, .iload_n 1, 13, 1, 0, .null, []),
  (13, .iload_n 1, 14, 1, 0, .null, []),
  (14, .bipush 8, 16, 0, 0, .int 8, []),
  (16, .if_icmp .ge 12, 19, 28, 0, .null, []),
  (19, .aload_n 0, 20, 0, 0, .null, []),
  (20, .getfield 40, 23, 5, 12, .null, []),
  (23, .iload_n 1, 24, 1, 0, .null, []),
  (24, .iaload, 25, 0, 0, .null, []),
  (25, .goto 4, 28, 29, 0, .null, []),
  (28, .iconst 0, 29, 0, 0, .int 0, []),
  (29, .ldc 95, 31, 0, 0, .int (909522486), []),
  (31, .ixor, 32, 0, 0, .null, []),
  (32, .iastore, 33, 0, 0, .null, []),
  (33, .iinc 1 1, 36, 1, 0, .int (1), []),
  (36, .goto (-34), 39, 2, 0, .null, []),
  (39, .iconst 0, 40, 0, 0, .int 0, []),
  (40, .istore_n 1, 41, 1, 0, .null, []),
  (41, .iload_n 1, 42, 1, 0, .null, []),
  (42, .bipush 40, 44, 0, 0, .int 40, []),
  (44, .if_icmp .ge 24, 47, 68, 0, .null, []),
  (47, .aload_n 0, 48, 0, 0, .null, []),
  (48, .getfield 43, 51, 5, 18, .null, []),
  (51, .bipush 16, 53, 0, 0, .int 16, []),
  (53, .iload_n 1, 54, 1, 0, .null, []),
  (54, .iadd, 55, 0, 0, .null, []),
  (55, .aload_n 0, 56, 0, 0, .null, []),
  (56, .getfield 34, 59, 5, 10, .null, []),
  (59, .iload_n 1, 60, 1, 0, .null, []),
  (60, .iaload, 61, 0, 0, .null, []),
  (61, .iastore, 62, 0, 0, .null, []),
  (62, .iinc 1 1, 65, 1, 0, .int (1), []),
  (65, .goto (-24), 68, 41, 0, .null, []),
  (68, .aload_n 0, 69, 0, 0, .null, []),
  (69, .bipush 56, 71, 0, 0, .int 56, []),
  (71, .invokevirtual 74, 74, 72, 1, .null, [5]),
  (74, .iconst 0, 75, 0, 0, .int 0, []),
  (75, .istore_n 1, 76, 1, 0, .null, []),
  (76, .iload_n 1, 77, 1, 0, .null, []),
  (77, .bipush 8, 79, 0, 0, .int 8, []),
  (79, .if_icmp .ge 24, 82, 103, 0, .null, []),
  (82, .aload_n 0, 83, 0, 0, .null, []),
  (83, .getfield 43, 86, 5, 18, .null, []),
  (86, .bipush 16, 88, 0, 0, .int 16, []),
  (88, .iload_n 1, 89, 1, 0, .null, []),
  (89, .iadd, 90, 0, 0, .null, []),
  (90, .aload_n 0, 91, 0, 0, .null, []),
  (91, .getfield 46, 94, 5, 19, .null, []),
  (94, .iload_n 1, 95, 1, 0, .null, []),
  (95, .iaload, 96, 0, 0, .null, []),
  (96, .iastore, 97, 0, 0, .null, []),
  (97, .iinc 1 1, 100, 1, 0, .int (1), []),
  (100, .goto (-24), 103, 76, 0, .null, []),
  (103, .iconst 0, 104, 0, 0, .int 0, []),
  (104, .istore_n 1, 105, 1, 0, .null, []),
  (105, .iload_n 1, 106, 1, 0, .null, []),
  (106, .bipush 16, 108, 0, 0, .int 16, []),
  (108, .if_icmp .ge 34, 111, 142, 0, .null, []),
  (111, .aload_n 0, 112, 0, 0, .null, []),
  (112, .getfield 43, 115, 5, 18, .null, []),
  (115, .iload_n 1, 116, 1, 0, .null, []),
  (116, .iload_n 1, 117, 1, 0, .null, []),
  (117, .bipush 8, 119, 0, 0, .int 8, []),
  (119, .if_icmp .ge 12, 122, 131, 0, .null, []),
  (122, .aload_n 0, 123, 0, 0, .null, []),
  (123, .getfield 40, 126, 5, 12, .null, []),
  (126, .iload_n 1, 127, 1, 0, .null, []),
  (127, .iaload, 128, 0, 0, .null, []),
  (128, .goto 4, 131, 132, 0, .null, []),
  (131, .iconst 0, 132, 0, 0, .int 0, []),
  (132, .ldc 96, 134, 0, 0, .int (1549556828), []),
  (134, .ixor, 135, 0, 0, .null, []),
  (135, .iastore, 136, 0, 0, .null, []),
  (136, .iinc 1 1, 139, 1, 0, .int (1), []),
  (139, .goto (-34), 142, 105, 0, .null, []),
  (142, .aload_n 0, 143, 0, 0, .null, []),
  (143, .bipush 24, 145, 0, 0, .int 24, []),
  (145, .invokevirtual 74, 148, 72, 1, .null, [5]),
  (148, .return_, 149, 0, 0, .null, [])])
def t_X5_quarter : e_M := ((RX5, yX5_quarter, cX5_quarter, 5, (Option.none : Option FieldType)), [(0, .aload_n 0, 1, 0, 0, .null, []),
  (1, .getfield 58, 4, 5, 23, .null, []),
  (4, .iload_n 1, 5, 1, 0, .null, []),
  (5, .dup2, 6, 0, 0, .null, []),
  (6, .iaload, 7, 0, 0, .null, []),
  (7, .aload_n 0, 8, 0, 0, .null, []),
  (8, .getfield 58, 11, 5, 23, .null, []),
  (11, .iload_n 2, 12, 2, 0, .null, []),
  (12, .iaload, 13, 0, 0, .null, []),
  (13, .iadd, 14, 0, 0, .null, []),
  (14, .iastore, 15, 0, 0, .null, []),
  (15, .aload_n 0, 16, 0, 0, .null, []),
  (16, .getfield 58, 19, 5, 23, .null, []),
  (19, .iload 4, 21, 4, 0, .null, []),
  (21, .aload_n 0, 22, 0, 0, .null, []),
  (22, .getfield 58, 25, 5, 23, .null, []),
  (25, .iload 4, 27, 4, 0, .null, []),
  (27, .iaload, 28, 0, 0, .null, []),
  (28, .aload_n 0, 29, 0, 0, .null, []),
  (29, .getfield 58, 32, 5, 23, .null, []),
  (32, .iload_n 1, 33, 1, 0, .null, []),
  (33, .iaload, 34, 0, 0, .null, []),
  (34, .ixor, 35, 0, 0, .null, []),
  (35, .bipush 16, 37, 0, 0, .int 16, []),
  (37, .invokestatic 88, 40, 71, 2, .null, []),
  (40, .iastore, 41, 0, 0, .null, []),
  (41, .aload_n 0, 42, 0, 0, .null, []),
  (42, .getfield 58, 45, 5, 23, .null, []),
  (45, .iload_n 3, 46, 3, 0, .null, []),
  (46, .dup2, 47, 0, 0, .null, []),
  (47, .iaload, 48, 0, 0, .null, []),
  (48, .aload_n 0, 49, 0, 0, .null, []),
  (49, .getfield 58, 52, 5, 23, .null, []),
  (52, .iload 4, 54, 4, 0, .null, []),
  (54, .iaload, 55, 0, 0, .null, []),
  (55, .iadd, 56, 0, 0, .null, []),
  (56, .iastore, 57, 0, 0, .null, []),
  (57, .aload_n 0, 58, 0, 0, .null, []),
  (58, .getfield 58, 61, 5, 23, .null, []),
  (61, .iload_n 2, 62, 2, 0, .null, []),
  (62, .aload_n 0, 63, 0, 0, .null, []),
  (63, .getfield 58, 66, 5, 23, .null, []),
  (66, .iload_n 2, 67, 2, 0, .null, []),
  (67, .iaload, 68, 0, 0, .null, []),
  (68, .aload_n 0, 69, 0, 0, .null, []),
  (69, .getfield 58, 72, 5, 23, .null, []),
  (72, .iload_n 3, 73, 3, 0, .null, []),
  (73, .iaload, 74, 0, 0, .null, []),
  (74, .ixor, 75, 0, 0, .null, []),
  (75, .bipush 20, 77, 0, 0, .int 20, []),
  (77, .invokestatic 88, 80, 71, 2, .null, []),
  (80, .iastore, 81, 0, 0, .null, []),
  (81, .aload_n 0, 82, 0, 0, .null, []),
  (82, .getfield 58, 85, 5, 23, .null, []),
  (85, .iload_n 1, 86, 1, 0, .null, []),
  (86, .dup2, 87, 0, 0, .null, []),
  (87, .iaload, 88, 0, 0, .null, []),
  (88, .aload_n 0, 89, 0, 0, .null, []),
  (89, .getfield 58, 92, 5, 23, .null, []),
  (92, .iload_n 2, 93, 2, 0, .null, []),
  (93, .iaload, 94, 0, 0, .null, []),
  (94, .iadd, 95, 0, 0, .null, []),
  (95, .iastore, 96, 0, 0, .null, []),
  (96, .aload_n 0, 97, 0, 0, .null, []),
  (97, .getfield 58, 100, 5, 23, .null, []),
  (100, .iload 4, 102, 4, 0, .null, []),
  (102, .aload_n 0, 103, 0, 0, .null, []),
  (103, .getfield 58, 106, 5, 23, .null, []),
  (106, .iload 4, 108, 4, 0, .null, []),
  (108, .iaload, 109, 0, 0, .null, []),
  (109, .aload_n 0, 110, 0, 0, .null, []),
  (110, .getfield 58, 113, 5, 23, .null, []),
  (113, .iload_n 1, 114, 1, 0, .null, []),
  (114, .iaload, 115, 0, 0, .null, []),
  (115, .ixor, 116, 0, 0, .null, []),
  (116, .bipush 24, 118, 0, 0, .int 24, []),
  (118, .invokestatic 88, 121, 71, 2, .null, []),
  (121, .iastore, 122, 0, 0, .null, []),
  (122, .aload_n 0, 123, 0, 0, .null, []),
  (123, .getfield 58, 126, 5, 23, .null, []),
  (126, .iload_n 3, 127, 3, 0, .null, []),
  (127, .dup2, 128, 0, 0, .null, []),
  (128, .iaload, 129, 0, 0, .null, []),
  (129, .aload_n 0, 130, 0, 0, .null, []),
  (130, .getfield 58, 133, 5, 23, .null, []),
  (133, .iload 4, 135, 4, 0, .null, []),
  (135, .iaload, 136, 0, 0, .null, []),
  (136, .iadd, 137, 0, 0, .null, []),
  (137, .iastore, 138, 0, 0, .null, []),
  (138, .aload_n 0, 139, 0, 0, .null, []),
  (139, .getfield 58, 142, 5, 23, .null, []),
  (142, .iload_n 2, 143, 2, 0, .null, []),
  (143, .aload_n 0, 144, 0, 0, .null, []),
  (144, .getfield 58, 147, 5, 23, .null, []),
  (147, .iload_n 2, 148, 2, 0, .null, []),
  (148, .iaload, 149, 0, 0, .null, []),
  (149, .aload_n 0, 150, 0, 0, .null, []),
  (150, .getfield 58, 153, 5, 23, .null, []),
  (153, .iload_n 3, 154, 3, 0, .null, []),
  (154, .iaload, 155, 0, 0, .null, []),
  (155, .ixor, 156, 0, 0, .null, []),
  (156, .bipush 25, 158, 0, 0, .int 25, []),
  (158, .invokestatic 88, 161, 71, 2, .null, []),
  (161, .iastore, 162, 0, 0, .null, []),
  (162, .return_, 163, 0, 0, .null, [])])
def t_X5_stream : e_M := ((RX5, yX5_stream, cX5_stream, 6, (Option.none : Option FieldType)), [(0, .aload_n 0, 1, 0, 0, .null, []),
  (1, .getfield 55, 4, 5, 22, .null, []),
  (4, .iconst 0, 5, 0, 0, .int 0, []),
  (5, .ldc 97, 7, 0, 0, .int (1634760805), []),
  (7, .iastore, 8, 0, 0, .null, []),
  (8, .aload_n 0, 9, 0, 0, .null, []),
  (9, .getfield 55, 12, 5, 22, .null, []),
  (12, .iconst 1, 13, 0, 0, .int 1, []),
  (13, .ldc 98, 15, 0, 0, .int (857760878), []),
  (15, .iastore, 16, 0, 0, .null, []),
  (16, .aload_n 0, 17, 0, 0, .null, []),
  (17, .getfield 55, 20, 5, 22, .null, []),
  (20, .iconst 2, 21, 0, 0, .int 2, []),
  (21, .ldc 99, 23, 0, 0, .int (2036477234), []),
  (23, .iastore, 24, 0, 0, .null, []),
  (24, .aload_n 0, 25, 0, 0, .null, []),
  (25, .getfield 55, 28, 5, 22, .null, []),
  (28, .iconst 3, 29, 0, 0, .int 3, []),
  (29, .ldc 100, 31, 0, 0, .int (1797285236), []),
  (31, .iastore, 32, 0, 0, .null, []),
  (32, .iconst 0, 33, 0, 0, .int 0, []),
  (33, .istore 4, 35, 4, 0, .null, []),
  (35, .iload 4, 37, 4, 0, .null, []),
  (37, .bipush 8, 39, 0, 0, .int 8, []),
  (39, .if_icmp .ge 25, 42, 64, 0, .null, []),
  (42, .aload_n 0, 43, 0, 0, .null, []),
  (43, .getfield 55, 46, 5, 22, .null, []),
  (46, .iconst 4, 47, 0, 0, .int 4, []),
  (47, .iload 4, 49, 4, 0, .null, []),
  (49, .iadd, 50, 0, 0, .null, []),
  (50, .aload_n 0, 51, 0, 0, .null, []),
  (51, .getfield 37, 54, 5, 11, .null, []),
  (54, .iload 4, 56, 4, 0, .null, []),
  (56, .iaload, 57, 0, 0, .null, []),
  (57, .iastore, 58, 0, 0, .null, []),
  (58, .iinc 4 1, 61, 4, 0, .int (1), []),
  (61, .goto (-26), 64, 35, 0, .null, []),
  (64, .aload_n 0, 65, 0, 0, .null, []),
  (65, .getfield 55, 68, 5, 22, .null, []),
  (68, .bipush 12, 70, 0, 0, .int 12, []),
  (70, .iload_n 1, 71, 1, 0, .null, []),
  (71, .iastore, 72, 0, 0, .null, []),
  (72, .aload_n 0, 73, 0, 0, .null, []),
  (73, .getfield 55, 76, 5, 22, .null, []),
  (76, .bipush 13, 78, 0, 0, .int 13, []),
  (78, .iconst 0, 79, 0, 0, .int 0, []),
  (79, .iastore, 80, 0, 0, .null, []),
  (80, .aload_n 0, 81, 0, 0, .null, []),
  (81, .getfield 55, 84, 5, 22, .null, []),
  (84, .bipush 14, 86, 0, 0, .int 14, []),
  (86, .iload_n 2, 87, 2, 0, .null, []),
  (87, .iastore, 88, 0, 0, .null, []),
  (88, .aload_n 0, 89, 0, 0, .null, []),
  (89, .getfield 55, 92, 5, 22, .null, []),
  (92, .bipush 15, 94, 0, 0, .int 15, []),
  (94, .iload_n 3, 95, 3, 0, .null, []),
  (95, .iastore, 96, 0, 0, .null, []),
  (96, .iconst 0, 97, 0, 0, .int 0, []),
  (97, .istore 4, 99, 4, 0, .null, []),
  (99, .iload 4, 101, 4, 0, .null, []),
  (101, .bipush 16, 103, 0, 0, .int 16, []),
  (103, .if_icmp .ge 23, 106, 126, 0, .null, []),
  (106, .aload_n 0, 107, 0, 0, .null, []),
  (107, .getfield 58, 110, 5, 23, .null, []),
  (110, .iload 4, 112, 4, 0, .null, []),
  (112, .aload_n 0, 113, 0, 0, .null, []),
  (113, .getfield 55, 116, 5, 22, .null, []),
  (116, .iload 4, 118, 4, 0, .null, []),
  (118, .iaload, 119, 0, 0, .null, []),
  (119, .iastore, 120, 0, 0, .null, []),
  (120, .iinc 4 1, 123, 4, 0, .int (1), []),
  (123, .goto (-24), 126, 99, 0, .null, []),
  (126, .iconst 0, 127, 0, 0, .int 0, []),
  (127, .istore 4, 129, 4, 0, .null, []),
  (129, .iload 4, 131, 4, 0, .null, []),
  (131, .bipush 10, 133, 0, 0, .int 10, []),
  (133, .if_icmp .ge 91, 136, 224, 0, .null, []),
  (136, .iconst 0, 137, 0, 0, .int 0, []),
  (137, .istore 5, 139, 5, 0, .null, []),
  (139, .iload 5, 141, 5, 0, .null, []),
  (141, .iconst 4, 142, 0, 0, .int 4, []),
  (142, .if_icmp .ge 29, 145, 171, 0, .null, []),
  (145, .aload_n 0, 146, 0, 0, .null, []),
  (146, .iload 5, 148, 5, 0, .null, []),
  (148, .iconst 4, 149, 0, 0, .int 4, []),
  (149, .iload 5, 151, 5, 0, .null, []),
  (151, .iadd, 152, 0, 0, .null, []),
  (152, .bipush 8, 154, 0, 0, .int 8, []),
  (154, .iload 5, 156, 5, 0, .null, []),
  (156, .iadd, 157, 0, 0, .null, []),
  (157, .bipush 12, 159, 0, 0, .int 12, []),
  (159, .iload 5, 161, 5, 0, .null, []),
  (161, .iadd, 162, 0, 0, .null, []),
  (162, .invokevirtual 101, 165, 75, 4, .null, [5]),
  (165, .iinc 5 1, 168, 5, 0, .int (1), []),
  (168, .goto (-29), 171, 139, 0, .null, []),
  (171, .iconst 0, 172, 0, 0, .int 0, []),
  (172, .istore 5, 174, 5, 0, .null, []),
  (174, .iload 5, 176, 5, 0, .null, []),
  (176, .iconst 4, 177, 0, 0, .int 4, []),
  (177, .if_icmp .ge 41, 180, 218, 0, .null, []),
  (180, .aload_n 0, 181, 0, 0, .null, []),
  (181, .iload 5, 183, 5, 0, .null, []),
  (183, .iconst 4, 184, 0, 0, .int 4, []),
  (184, .iload 5, 186, 5, 0, .null, []),
  (186, .iconst 1, 187, 0, 0, .int 1, []),
  (187, .iadd, 188, 0, 0, .null, []),
  (188, .iconst 4, 189, 0, 0, .int 4, []),
  (189, .irem, 190, 0, 0, .null, []),
  (190, .iadd, 191, 0, 0, .null, []),
  (191, .bipush 8, 193, 0, 0, .int 8, []),
  (193, .iload 5, 195, 5, 0, .null, []),
  (195, .iconst 2, 196, 0, 0, .int 2, []),
  (196, .iadd, 197, 0, 0, .null, []),
  (197, .iconst 4, 198, 0, 0, .int 4, []),
  (198, .irem, 199, 0, 0, .null, []),
  (199, .iadd, 200, 0, 0, .null, []),
  (200, .bipush 12, 202, 0, 0, .int 12, []),
  (202, .iload 5, 204, 5, 0, .null, []),
  (204, .iconst 3, 205, 0, 0, .int 3, []),
  (205, .iadd, 206, 0, 0, .null, []),
  (206, .iconst 4, 207, 0, 0, .int 4, []),
  (207, .irem, 208, 0, 0, .null, []),
  (208, .iadd, 209, 0, 0, .null, []),
  (209, .invokevirtual 101, 212, 75, 4, .null, [5]),
  (212, .iinc 5 1, 215, 5, 0, .int (1), []),
  (215, .goto (-41), 218, 174, 0, .null, []),
  (218, .iinc 4 1, 221, 4, 0, .int (1), []),
  (221, .goto (-92), 224, 129, 0, .null, []),
  (224, .iconst 0, 225, 0, 0, .int 0, []),
  (225, .istore 4, 227, 4, 0, .null, []),
  (227, .iload 4, 229, 4, 0, .null, []),
  (229, .bipush 16, 231, 0, 0, .int 16, []),
  (231, .if_icmp .ge 26, 234, 257, 0, .null, []),
  (234, .aload_n 0, 235, 0, 0, .null, []),
  (235, .getfield 58, 238, 5, 23, .null, []),
  (238, .iload 4, 240, 4, 0, .null, []),
  (240, .dup2, 241, 0, 0, .null, []),
  (241, .iaload, 242, 0, 0, .null, []),
  (242, .aload_n 0, 243, 0, 0, .null, []),
  (243, .getfield 55, 246, 5, 22, .null, []),
  (246, .iload 4, 248, 4, 0, .null, []),
  (248, .iaload, 249, 0, 0, .null, []),
  (249, .iadd, 250, 0, 0, .null, []),
  (250, .iastore, 251, 0, 0, .null, []),
  (251, .iinc 4 1, 254, 4, 0, .int (1), []),
  (254, .goto (-27), 257, 227, 0, .null, []),
  (257, .return_, 258, 0, 0, .null, [])])
def t_X5_seal : e_M := ((RX5, yX5_seal, cX5_seal, 7, (Option.none : Option FieldType)), [(0, .iconst 0, 1, 0, 0, .int 0, []),
  (1, .istore 5, 3, 5, 0, .null, []),
  (3, .iload 5, 5, 5, 0, .null, []),
  (5, .iconst 2, 6, 0, 0, .int 2, []),
  (6, .if_icmp .ge 78, 9, 84, 0, .null, []),
  (9, .aload_n 0, 10, 0, 0, .null, []),
  (10, .iconst 1, 11, 0, 0, .int 1, []),
  (11, .iload 5, 13, 5, 0, .null, []),
  (13, .iadd, 14, 0, 0, .null, []),
  (14, .aload_n 0, 15, 0, 0, .null, []),
  (15, .getfield 34, 18, 5, 10, .null, []),
  (18, .iconst 4, 19, 0, 0, .int 4, []),
  (19, .iaload, 20, 0, 0, .null, []),
  (20, .aload_n 0, 21, 0, 0, .null, []),
  (21, .getfield 34, 24, 5, 10, .null, []),
  (24, .iconst 5, 25, 0, 0, .int 5, []),
  (25, .iaload, 26, 0, 0, .null, []),
  (26, .invokevirtual 105, 29, 76, 3, .null, [5]),
  (29, .iconst 0, 30, 0, 0, .int 0, []),
  (30, .istore 6, 32, 6, 0, .null, []),
  (32, .iload 6, 34, 6, 0, .null, []),
  (34, .bipush 16, 36, 0, 0, .int 16, []),
  (36, .if_icmp .ge 42, 39, 78, 0, .null, []),
  (39, .aload_n 3, 40, 3, 0, .null, []),
  (40, .iload 4, 42, 4, 0, .null, []),
  (42, .bipush 16, 44, 0, 0, .int 16, []),
  (44, .iload 5, 46, 5, 0, .null, []),
  (46, .imul, 47, 0, 0, .null, []),
  (47, .iadd, 48, 0, 0, .null, []),
  (48, .iload 6, 50, 6, 0, .null, []),
  (50, .iadd, 51, 0, 0, .null, []),
  (51, .aload_n 1, 52, 1, 0, .null, []),
  (52, .iload_n 2, 53, 2, 0, .null, []),
  (53, .bipush 16, 55, 0, 0, .int 16, []),
  (55, .iload 5, 57, 5, 0, .null, []),
  (57, .imul, 58, 0, 0, .null, []),
  (58, .iadd, 59, 0, 0, .null, []),
  (59, .iload 6, 61, 6, 0, .null, []),
  (61, .iadd, 62, 0, 0, .null, []),
  (62, .iaload, 63, 0, 0, .null, []),
  (63, .aload_n 0, 64, 0, 0, .null, []),
  (64, .getfield 58, 67, 5, 23, .null, []),
  (67, .iload 6, 69, 6, 0, .null, []),
  (69, .iaload, 70, 0, 0, .null, []),
  (70, .ixor, 71, 0, 0, .null, []),
  (71, .iastore, 72, 0, 0, .null, []),
  (72, .iinc 6 1, 75, 6, 0, .int (1), []),
  (75, .goto (-43), 78, 32, 0, .null, []),
  (78, .iinc 5 1, 81, 5, 0, .int (1), []),
  (81, .goto (-78), 84, 3, 0, .null, []),
  (84, .return_, 85, 0, 0, .null, [])])
def t_X5_isOf : e_M := ((RX5, yX5_isOf, cX5_isOf, 3, (some FieldType.boolean)), [(0, .iload_n 1, 1, 1, 0, .null, []),
  (1, .ifCond .lt 25, 4, 26, 0, .null, []),
  (4, .iload_n 1, 5, 1, 0, .null, []),
  (5, .aload_n 0, 6, 0, 0, .null, []),
  (6, .getfield 71, 9, 5, 1, .null, []),
  (9, .if_icmp .ge 17, 12, 26, 0, .null, []),
  (12, .aload_n 0, 13, 0, 0, .null, []),
  (13, .getfield 9, 16, 5, 2, .null, []),
  (16, .iload_n 1, 17, 1, 0, .null, []),
  (17, .iaload, 18, 0, 0, .null, []),
  (18, .iload_n 2, 19, 2, 0, .null, []),
  (19, .if_icmp .ne 7, 22, 26, 0, .null, []),
  (22, .iconst 1, 23, 0, 0, .int 1, []),
  (23, .goto 4, 26, 27, 0, .null, []),
  (26, .iconst 0, 27, 0, 0, .int 0, []),
  (27, .ireturn, 28, 0, 0, .null, [])])
def t_X5_owned : e_M := ((RX5, yX5_owned, cX5_owned, 4, (some FieldType.int)), [(0, .iconst 0, 1, 0, 0, .int 0, []),
  (1, .istore_n 2, 2, 2, 0, .null, []),
  (2, .iconst 0, 3, 0, 0, .int 0, []),
  (3, .istore_n 3, 4, 3, 0, .null, []),
  (4, .iload_n 3, 5, 3, 0, .null, []),
  (5, .aload_n 0, 6, 0, 0, .null, []),
  (6, .getfield 71, 9, 5, 1, .null, []),
  (9, .if_icmp .ge 27, 12, 36, 0, .null, []),
  (12, .iload_n 2, 13, 2, 0, .null, []),
  (13, .aload_n 0, 14, 0, 0, .null, []),
  (14, .getfield 13, 17, 5, 3, .null, []),
  (17, .iload_n 3, 18, 3, 0, .null, []),
  (18, .iaload, 19, 0, 0, .null, []),
  (19, .iload_n 1, 20, 1, 0, .null, []),
  (20, .if_icmp .ne 7, 23, 27, 0, .null, []),
  (23, .iconst 1, 24, 0, 0, .int 1, []),
  (24, .goto 4, 27, 28, 0, .null, []),
  (27, .iconst 0, 28, 0, 0, .int 0, []),
  (28, .iadd, 29, 0, 0, .null, []),
  (29, .istore_n 2, 30, 2, 0, .null, []),
  (30, .iinc 3 1, 33, 3, 0, .int (1), []),
  (33, .goto (-29), 36, 4, 0, .null, []),
  (36, .iload_n 2, 37, 2, 0, .null, []),
  (37, .ireturn, 38, 0, 0, .null, [])])
def t_X5_becomes : e_M := ((RX5, yX5_becomes, cX5_becomes, 4, (Option.none : Option FieldType)), [(0, .aload_n 0, 1, 0, 0, .null, []),
  (1, .getfield 9, 4, 5, 2, .null, []),
  (4, .iload_n 1, 5, 1, 0, .null, []),
  (5, .iload_n 2, 6, 2, 0, .null, []),
  (6, .iastore, 7, 0, 0, .null, []),
  (7, .aload_n 0, 8, 0, 0, .null, []),
  (8, .getfield 13, 11, 5, 3, .null, []),
  (11, .iload_n 1, 12, 1, 0, .null, []),
  (12, .iconst (-1), 13, 0, 0, .int (-1), []),
  (13, .iastore, 14, 0, 0, .null, []),
  (14, .aload_n 0, 15, 0, 0, .null, []),
  (15, .getfield 16, 18, 5, 4, .null, []),
  (18, .iload_n 1, 19, 1, 0, .null, []),
  (19, .iconst 0, 20, 0, 0, .int 0, []),
  (20, .iastore, 21, 0, 0, .null, []),
  (21, .aload_n 0, 22, 0, 0, .null, []),
  (22, .getfield 19, 25, 5, 5, .null, []),
  (25, .iload_n 1, 26, 1, 0, .null, []),
  (26, .iconst 0, 27, 0, 0, .int 0, []),
  (27, .iastore, 28, 0, 0, .null, []),
  (28, .aload_n 0, 29, 0, 0, .null, []),
  (29, .getfield 22, 32, 5, 6, .null, []),
  (32, .iload_n 1, 33, 1, 0, .null, []),
  (33, .iconst 0, 34, 0, 0, .int 0, []),
  (34, .iastore, 35, 0, 0, .null, []),
  (35, .aload_n 0, 36, 0, 0, .null, []),
  (36, .getfield 25, 39, 5, 7, .null, []),
  (39, .iload_n 1, 40, 1, 0, .null, []),
  (40, .iconst 0, 41, 0, 0, .int 0, []),
  (41, .iastore, 42, 0, 0, .null, []),
  (42, .iconst 0, 43, 0, 0, .int 0, []),
  (43, .istore_n 3, 44, 3, 0, .null, []),
  (44, .iload_n 3, 45, 3, 0, .null, []),
  (45, .bipush 32, 47, 0, 0, .int 32, []),
  (47, .if_icmp .ge 21, 50, 68, 0, .null, []),
  (50, .aload_n 0, 51, 0, 0, .null, []),
  (51, .getfield 28, 54, 5, 8, .null, []),
  (54, .bipush 32, 56, 0, 0, .int 32, []),
  (56, .iload_n 1, 57, 1, 0, .null, []),
  (57, .imul, 58, 0, 0, .null, []),
  (58, .iload_n 3, 59, 3, 0, .null, []),
  (59, .iadd, 60, 0, 0, .null, []),
  (60, .iconst 0, 61, 0, 0, .int 0, []),
  (61, .iastore, 62, 0, 0, .null, []),
  (62, .iinc 3 1, 65, 3, 0, .int (1), []),
  (65, .goto (-21), 68, 44, 0, .null, []),
  (68, .iconst 0, 69, 0, 0, .int 0, []),
  (69, .istore_n 3, 70, 3, 0, .null, []),
  (70, .iload_n 3, 71, 3, 0, .null, []),
  (71, .bipush 8, 73, 0, 0, .int 8, []),
  (73, .if_icmp .ge 21, 76, 94, 0, .null, []),
  (76, .aload_n 0, 77, 0, 0, .null, []),
  (77, .getfield 31, 80, 5, 9, .null, []),
  (80, .bipush 8, 82, 0, 0, .int 8, []),
  (82, .iload_n 1, 83, 1, 0, .null, []),
  (83, .imul, 84, 0, 0, .null, []),
  (84, .iload_n 3, 85, 3, 0, .null, []),
  (85, .iadd, 86, 0, 0, .null, []),
  (86, .iconst 0, 87, 0, 0, .int 0, []),
  (87, .iastore, 88, 0, 0, .null, []),
  (88, .iinc 3 1, 91, 3, 0, .int (1), []),
  (91, .goto (-21), 94, 70, 0, .null, []),
  (94, .return_, 95, 0, 0, .null, [])])
def t_X5_poke : e_M := ((RX5, yX5_poke, cX5_poke, 3, (Option.none : Option FieldType)), [(0, .aload_n 0, 1, 0, 0, .null, []),
  (1, .iload_n 1, 2, 1, 0, .null, []),
  (2, .ifCond .lt 9, 5, 11, 0, .null, []),
  (5, .iload_n 1, 6, 1, 0, .null, []),
  (6, .bipush 63, 8, 0, 0, .int 63, []),
  (8, .if_icmp .le 7, 11, 15, 0, .null, []),
  (11, .iconst 1, 12, 0, 0, .int 1, []),
  (12, .goto 4, 15, 16, 0, .null, []),
  (15, .iconst 0, 16, 0, 0, .int 0, []),
  (16, .putfield 78, 19, 5, 0, .int 0, []),
  (19, .aload_n 0, 20, 0, 0, .null, []),
  (20, .getfield 78, 23, 5, 0, .null, []),
  (23, .ifCond .ne 10, 26, 33, 0, .null, []),
  (26, .aload_n 0, 27, 0, 0, .null, []),
  (27, .getfield 34, 30, 5, 10, .null, []),
  (30, .iload_n 1, 31, 1, 0, .null, []),
  (31, .iload_n 2, 32, 2, 0, .null, []),
  (32, .iastore, 33, 0, 0, .null, []),
  (33, .return_, 34, 0, 0, .null, [])])
def t_X5_buffer : e_M := ((RX5, yX5_buffer, cX5_buffer, 2, (some FieldType.int)), [(0, .aload_n 0, 1, 0, 0, .null, []),
  (1, .iload_n 1, 2, 1, 0, .null, []),
  (2, .ifCond .lt 9, 5, 11, 0, .null, []),
  (5, .iload_n 1, 6, 1, 0, .null, []),
  (6, .bipush 63, 8, 0, 0, .int 63, []),
  (8, .if_icmp .le 7, 11, 15, 0, .null, []),
  (11, .iconst 1, 12, 0, 0, .int 1, []),
  (12, .goto 4, 15, 16, 0, .null, []),
  (15, .iconst 0, 16, 0, 0, .int 0, []),
  (16, .putfield 78, 19, 5, 0, .int 0, []),
  (19, .aload_n 0, 20, 0, 0, .null, []),
  (20, .getfield 78, 23, 5, 0, .null, []),
  (23, .ifCond .le 7, 26, 30, 0, .null, []),
  (26, .iconst 0, 27, 0, 0, .int 0, []),
  (27, .goto 9, 30, 36, 0, .null, []),
  (30, .aload_n 0, 31, 0, 0, .null, []),
  (31, .getfield 34, 34, 5, 10, .null, []),
  (34, .iload_n 1, 35, 1, 0, .null, []),
  (35, .iaload, 36, 0, 0, .null, []),
  (36, .ireturn, 37, 0, 0, .null, [])])
def t_X5_create : e_M := ((RX5, yX5_create, cX5_create, 2, (some FieldType.int)), [(0, .aload_n 0, 1, 0, 0, .null, []),
  (1, .iconst 0, 2, 0, 0, .int 0, []),
  (2, .putfield 78, 5, 5, 0, .int 0, []),
  (5, .aload_n 0, 6, 0, 0, .null, []),
  (6, .iload_n 1, 7, 1, 0, .null, []),
  (7, .iconst 0, 8, 0, 0, .int 0, []),
  (8, .invokevirtual 108, 11, 78, 2, .null, [5]),
  (11, .ifCond .ne 5, 14, 16, 0, .null, []),
  (14, .iconst 1, 15, 0, 0, .int 1, []),
  (15, .ireturn, 16, 0, 0, .null, []),
  (16, .aload_n 0, 17, 0, 0, .null, []),
  (17, .iload_n 1, 18, 1, 0, .null, []),
  (18, .iconst 1, 19, 0, 0, .int 1, []),
  (19, .invokevirtual 112, 22, 80, 2, .null, [5]),
  (22, .aload_n 0, 23, 0, 0, .null, []),
  (23, .dup, 24, 0, 0, .null, []),
  (24, .getfield 116, 27, 5, 13, .null, []),
  (27, .iconst 1, 28, 0, 0, .int 1, []),
  (28, .iadd, 29, 0, 0, .null, []),
  (29, .putfield 116, 32, 5, 13, .int 0, []),
  (32, .aload_n 0, 33, 0, 0, .null, []),
  (33, .getfield 22, 36, 5, 6, .null, []),
  (36, .iload_n 1, 37, 1, 0, .null, []),
  (37, .aload_n 0, 38, 0, 0, .null, []),
  (38, .getfield 116, 41, 5, 13, .null, []),
  (41, .iastore, 42, 0, 0, .null, []),
  (42, .iconst 0, 43, 0, 0, .int 0, []),
  (43, .ireturn, 44, 0, 0, .null, [])])
def t_X5_measured : e_M := ((RX5, yX5_measured, cX5_measured, 5, (Option.none : Option FieldType)), [(0, .iconst 0, 1, 0, 0, .int 0, []),
  (1, .istore 4, 3, 4, 0, .null, []),
  (3, .iload 4, 5, 4, 0, .null, []),
  (5, .bipush 8, 7, 0, 0, .int 8, []),
  (7, .if_icmp .ge 28, 10, 35, 0, .null, []),
  (10, .aload_n 0, 11, 0, 0, .null, []),
  (11, .getfield 43, 14, 5, 18, .null, []),
  (14, .iload 4, 16, 4, 0, .null, []),
  (16, .aload_n 0, 17, 0, 0, .null, []),
  (17, .getfield 31, 20, 5, 9, .null, []),
  (20, .bipush 8, 22, 0, 0, .int 8, []),
  (22, .iload_n 1, 23, 1, 0, .null, []),
  (23, .imul, 24, 0, 0, .null, []),
  (24, .iload 4, 26, 4, 0, .null, []),
  (26, .iadd, 27, 0, 0, .null, []),
  (27, .iaload, 28, 0, 0, .null, []),
  (28, .iastore, 29, 0, 0, .null, []),
  (29, .iinc 4 1, 32, 4, 0, .int (1), []),
  (32, .goto (-29), 35, 3, 0, .null, []),
  (35, .aload_n 0, 36, 0, 0, .null, []),
  (36, .getfield 43, 39, 5, 18, .null, []),
  (39, .bipush 8, 41, 0, 0, .int 8, []),
  (41, .aload_n 0, 42, 0, 0, .null, []),
  (42, .getfield 9, 45, 5, 2, .null, []),
  (45, .iload_n 2, 46, 2, 0, .null, []),
  (46, .iaload, 47, 0, 0, .null, []),
  (47, .iastore, 48, 0, 0, .null, []),
  (48, .aload_n 0, 49, 0, 0, .null, []),
  (49, .getfield 43, 52, 5, 18, .null, []),
  (52, .bipush 9, 54, 0, 0, .int 9, []),
  (54, .iload_n 3, 55, 3, 0, .null, []),
  (55, .iastore, 56, 0, 0, .null, []),
  (56, .aload_n 0, 57, 0, 0, .null, []),
  (57, .getfield 43, 60, 5, 18, .null, []),
  (60, .bipush 10, 62, 0, 0, .int 10, []),
  (62, .aload_n 0, 63, 0, 0, .null, []),
  (63, .getfield 19, 66, 5, 5, .null, []),
  (66, .iload_n 2, 67, 2, 0, .null, []),
  (67, .iaload, 68, 0, 0, .null, []),
  (68, .iastore, 69, 0, 0, .null, []),
  (69, .aload_n 0, 70, 0, 0, .null, []),
  (70, .getfield 43, 73, 5, 18, .null, []),
  (73, .bipush 11, 75, 0, 0, .int 11, []),
  (75, .iconst 0, 76, 0, 0, .int 0, []),
  (76, .iastore, 77, 0, 0, .null, []),
  (77, .iconst 0, 78, 0, 0, .int 0, []),
  (78, .istore 4, 80, 4, 0, .null, []),
  (80, .iload 4, 82, 4, 0, .null, []),
  (82, .bipush 32, 84, 0, 0, .int 32, []),
  (84, .if_icmp .ge 31, 87, 115, 0, .null, []),
  (87, .aload_n 0, 88, 0, 0, .null, []),
  (88, .getfield 43, 91, 5, 18, .null, []),
  (91, .bipush 12, 93, 0, 0, .int 12, []),
  (93, .iload 4, 95, 4, 0, .null, []),
  (95, .iadd, 96, 0, 0, .null, []),
  (96, .aload_n 0, 97, 0, 0, .null, []),
  (97, .getfield 28, 100, 5, 8, .null, []),
  (100, .bipush 32, 102, 0, 0, .int 32, []),
  (102, .iload_n 2, 103, 2, 0, .null, []),
  (103, .imul, 104, 0, 0, .null, []),
  (104, .iload 4, 106, 4, 0, .null, []),
  (106, .iadd, 107, 0, 0, .null, []),
  (107, .iaload, 108, 0, 0, .null, []),
  (108, .iastore, 109, 0, 0, .null, []),
  (109, .iinc 4 1, 112, 4, 0, .int (1), []),
  (112, .goto (-32), 115, 80, 0, .null, []),
  (115, .aload_n 0, 116, 0, 0, .null, []),
  (116, .bipush 44, 118, 0, 0, .int 44, []),
  (118, .invokevirtual 74, 121, 72, 1, .null, [5]),
  (121, .iconst 0, 122, 0, 0, .int 0, []),
  (122, .istore 4, 124, 4, 0, .null, []),
  (124, .iload 4, 126, 4, 0, .null, []),
  (126, .bipush 8, 128, 0, 0, .int 8, []),
  (128, .if_icmp .ge 28, 131, 156, 0, .null, []),
  (131, .aload_n 0, 132, 0, 0, .null, []),
  (132, .getfield 31, 135, 5, 9, .null, []),
  (135, .bipush 8, 137, 0, 0, .int 8, []),
  (137, .iload_n 1, 138, 1, 0, .null, []),
  (138, .imul, 139, 0, 0, .null, []),
  (139, .iload 4, 141, 4, 0, .null, []),
  (141, .iadd, 142, 0, 0, .null, []),
  (142, .aload_n 0, 143, 0, 0, .null, []),
  (143, .getfield 46, 146, 5, 19, .null, []),
  (146, .iload 4, 148, 4, 0, .null, []),
  (148, .iaload, 149, 0, 0, .null, []),
  (149, .iastore, 150, 0, 0, .null, []),
  (150, .iinc 4 1, 153, 4, 0, .int (1), []),
  (153, .goto (-29), 156, 124, 0, .null, []),
  (156, .return_, 157, 0, 0, .null, [])])
def t_X5_thread : e_M := ((RX5, yX5_thread, cX5_thread, 4, (some FieldType.int)), [(0, .aload_n 0, 1, 0, 0, .null, []),
  (1, .iconst 0, 2, 0, 0, .int 0, []),
  (2, .putfield 78, 5, 5, 0, .int 0, []),
  (5, .aload_n 0, 6, 0, 0, .null, []),
  (6, .iload_n 1, 7, 1, 0, .null, []),
  (7, .iconst 1, 8, 0, 0, .int 1, []),
  (8, .invokevirtual 108, 11, 78, 2, .null, [5]),
  (11, .ifCond .eq 12, 14, 23, 0, .null, []),
  (14, .aload_n 0, 15, 0, 0, .null, []),
  (15, .iload_n 2, 16, 2, 0, .null, []),
  (16, .iconst 0, 17, 0, 0, .int 0, []),
  (17, .invokevirtual 108, 20, 78, 2, .null, [5]),
  (20, .ifCond .ne 5, 23, 25, 0, .null, []),
  (23, .iconst 1, 24, 0, 0, .int 1, []),
  (24, .ireturn, 25, 0, 0, .null, []),
  (25, .aload_n 0, 26, 0, 0, .null, []),
  (26, .getfield 25, 29, 5, 7, .null, []),
  (29, .iload_n 1, 30, 1, 0, .null, []),
  (30, .iaload, 31, 0, 0, .null, []),
  (31, .ifCond .eq 5, 34, 36, 0, .null, []),
  (34, .iconst 2, 35, 0, 0, .int 2, []),
  (35, .ireturn, 36, 0, 0, .null, []),
  (36, .iload_n 3, 37, 3, 0, .null, []),
  (37, .ifCond .lt 10, 40, 47, 0, .null, []),
  (40, .iload_n 3, 41, 3, 0, .null, []),
  (41, .sipush 1023, 44, 0, 0, .int 1023, []),
  (44, .if_icmp .le 5, 47, 49, 0, .null, []),
  (47, .iconst 3, 48, 0, 0, .int 3, []),
  (48, .ireturn, 49, 0, 0, .null, []),
  (49, .aload_n 0, 50, 0, 0, .null, []),
  (50, .iload_n 2, 51, 2, 0, .null, []),
  (51, .iconst 2, 52, 0, 0, .int 2, []),
  (52, .invokevirtual 112, 55, 80, 2, .null, [5]),
  (55, .aload_n 0, 56, 0, 0, .null, []),
  (56, .getfield 13, 59, 5, 3, .null, []),
  (59, .iload_n 2, 60, 2, 0, .null, []),
  (60, .iload_n 1, 61, 1, 0, .null, []),
  (61, .iastore, 62, 0, 0, .null, []),
  (62, .aload_n 0, 63, 0, 0, .null, []),
  (63, .getfield 28, 66, 5, 8, .null, []),
  (66, .bipush 32, 68, 0, 0, .int 32, []),
  (68, .iload_n 2, 69, 2, 0, .null, []),
  (69, .imul, 70, 0, 0, .null, []),
  (70, .iload_n 3, 71, 3, 0, .null, []),
  (71, .iastore, 72, 0, 0, .null, []),
  (72, .aload_n 0, 73, 0, 0, .null, []),
  (73, .iload_n 1, 74, 1, 0, .null, []),
  (74, .iload_n 2, 75, 2, 0, .null, []),
  (75, .iload_n 3, 76, 3, 0, .null, []),
  (76, .invokevirtual 119, 79, 84, 3, .null, [5]),
  (79, .iconst 0, 80, 0, 0, .int 0, []),
  (80, .ireturn, 81, 0, 0, .null, [])])
def t_X5_at : e_M := ((RX5, yX5_at, cX5_at, 4, (some FieldType.int)), [(0, .iconst 0, 1, 0, 0, .int 0, []),
  (1, .istore_n 3, 2, 3, 0, .null, []),
  (2, .iload_n 3, 3, 3, 0, .null, []),
  (3, .aload_n 0, 4, 0, 0, .null, []),
  (4, .getfield 71, 7, 5, 1, .null, []),
  (7, .if_icmp .ge 41, 10, 48, 0, .null, []),
  (10, .aload_n 0, 11, 0, 0, .null, []),
  (11, .getfield 9, 14, 5, 2, .null, []),
  (14, .iload_n 3, 15, 3, 0, .null, []),
  (15, .iaload, 16, 0, 0, .null, []),
  (16, .iconst 3, 17, 0, 0, .int 3, []),
  (17, .if_icmp .ne 25, 20, 42, 0, .null, []),
  (20, .aload_n 0, 21, 0, 0, .null, []),
  (21, .getfield 13, 24, 5, 3, .null, []),
  (24, .iload_n 3, 25, 3, 0, .null, []),
  (25, .iaload, 26, 0, 0, .null, []),
  (26, .iload_n 1, 27, 1, 0, .null, []),
  (27, .if_icmp .ne 15, 30, 42, 0, .null, []),
  (30, .aload_n 0, 31, 0, 0, .null, []),
  (31, .getfield 16, 34, 5, 4, .null, []),
  (34, .iload_n 3, 35, 3, 0, .null, []),
  (35, .iaload, 36, 0, 0, .null, []),
  (36, .iload_n 2, 37, 2, 0, .null, []),
  (37, .if_icmp .ne 5, 40, 42, 0, .null, []),
  (40, .iload_n 3, 41, 3, 0, .null, []),
  (41, .ireturn, 42, 0, 0, .null, []),
  (42, .iinc 3 1, 45, 3, 0, .int (1), []),
  (45, .goto (-43), 48, 2, 0, .null, []),
  (48, .iconst (-1), 49, 0, 0, .int (-1), []),
  (49, .ireturn, 50, 0, 0, .null, [])])
def t_X5_data : e_M := ((RX5, yX5_data, cX5_data, 6, (some FieldType.int)), [(0, .aload_n 0, 1, 0, 0, .null, []),
  (1, .iconst 0, 2, 0, 0, .int 0, []),
  (2, .putfield 78, 5, 5, 0, .int 0, []),
  (5, .aload_n 0, 6, 0, 0, .null, []),
  (6, .iload_n 1, 7, 1, 0, .null, []),
  (7, .iconst 1, 8, 0, 0, .int 1, []),
  (8, .invokevirtual 108, 11, 78, 2, .null, [5]),
  (11, .ifCond .eq 12, 14, 23, 0, .null, []),
  (14, .aload_n 0, 15, 0, 0, .null, []),
  (15, .iload_n 2, 16, 2, 0, .null, []),
  (16, .iconst 0, 17, 0, 0, .int 0, []),
  (17, .invokevirtual 108, 20, 78, 2, .null, [5]),
  (20, .ifCond .ne 5, 23, 25, 0, .null, []),
  (23, .iconst 1, 24, 0, 0, .int 1, []),
  (24, .ireturn, 25, 0, 0, .null, []),
  (25, .aload_n 0, 26, 0, 0, .null, []),
  (26, .getfield 25, 29, 5, 7, .null, []),
  (29, .iload_n 1, 30, 1, 0, .null, []),
  (30, .iaload, 31, 0, 0, .null, []),
  (31, .ifCond .eq 5, 34, 36, 0, .null, []),
  (34, .iconst 2, 35, 0, 0, .int 2, []),
  (35, .ireturn, 36, 0, 0, .null, []),
  (36, .iload_n 3, 37, 3, 0, .null, []),
  (37, .ifCond .lt 31, 40, 68, 0, .null, []),
  (40, .iload_n 3, 41, 3, 0, .null, []),
  (41, .bipush 31, 43, 0, 0, .int 31, []),
  (43, .if_icmp .gt 25, 46, 68, 0, .null, []),
  (46, .iload 4, 48, 4, 0, .null, []),
  (48, .ifCond .lt 20, 51, 68, 0, .null, []),
  (51, .iload 4, 53, 4, 0, .null, []),
  (53, .bipush 7, 55, 0, 0, .int 7, []),
  (55, .if_icmp .gt 13, 58, 68, 0, .null, []),
  (58, .aload_n 0, 59, 0, 0, .null, []),
  (59, .iload_n 1, 60, 1, 0, .null, []),
  (60, .iload_n 3, 61, 3, 0, .null, []),
  (61, .invokevirtual 122, 64, 86, 2, .null, [5]),
  (64, .iconst (-1), 65, 0, 0, .int (-1), []),
  (65, .if_icmp .eq 5, 68, 70, 0, .null, []),
  (68, .iconst 3, 69, 0, 0, .int 3, []),
  (69, .ireturn, 70, 0, 0, .null, []),
  (70, .aload_n 0, 71, 0, 0, .null, []),
  (71, .iload_n 2, 72, 2, 0, .null, []),
  (72, .iconst 3, 73, 0, 0, .int 3, []),
  (73, .invokevirtual 112, 76, 80, 2, .null, [5]),
  (76, .aload_n 0, 77, 0, 0, .null, []),
  (77, .getfield 13, 80, 5, 3, .null, []),
  (80, .iload_n 2, 81, 2, 0, .null, []),
  (81, .iload_n 1, 82, 1, 0, .null, []),
  (82, .iastore, 83, 0, 0, .null, []),
  (83, .aload_n 0, 84, 0, 0, .null, []),
  (84, .getfield 16, 87, 5, 4, .null, []),
  (87, .iload_n 2, 88, 2, 0, .null, []),
  (88, .iload_n 3, 89, 3, 0, .null, []),
  (89, .iastore, 90, 0, 0, .null, []),
  (90, .aload_n 0, 91, 0, 0, .null, []),
  (91, .getfield 19, 94, 5, 5, .null, []),
  (94, .iload_n 2, 95, 2, 0, .null, []),
  (95, .iload 4, 97, 4, 0, .null, []),
  (97, .iastore, 98, 0, 0, .null, []),
  (98, .iconst 0, 99, 0, 0, .int 0, []),
  (99, .istore 5, 101, 5, 0, .null, []),
  (101, .iload 5, 103, 5, 0, .null, []),
  (103, .bipush 32, 105, 0, 0, .int 32, []),
  (105, .if_icmp .ge 28, 108, 133, 0, .null, []),
  (108, .aload_n 0, 109, 0, 0, .null, []),
  (109, .getfield 28, 112, 5, 8, .null, []),
  (112, .bipush 32, 114, 0, 0, .int 32, []),
  (114, .iload_n 2, 115, 2, 0, .null, []),
  (115, .imul, 116, 0, 0, .null, []),
  (116, .iload 5, 118, 5, 0, .null, []),
  (118, .iadd, 119, 0, 0, .null, []),
  (119, .aload_n 0, 120, 0, 0, .null, []),
  (120, .getfield 34, 123, 5, 10, .null, []),
  (123, .iload 5, 125, 5, 0, .null, []),
  (125, .iaload, 126, 0, 0, .null, []),
  (126, .iastore, 127, 0, 0, .null, []),
  (127, .iinc 5 1, 130, 5, 0, .int (1), []),
  (130, .goto (-29), 133, 101, 0, .null, []),
  (133, .aload_n 0, 134, 0, 0, .null, []),
  (134, .iload_n 1, 135, 1, 0, .null, []),
  (135, .iload_n 2, 136, 2, 0, .null, []),
  (136, .iload_n 3, 137, 3, 0, .null, []),
  (137, .invokevirtual 119, 140, 84, 3, .null, [5]),
  (140, .iconst 0, 141, 0, 0, .int 0, []),
  (141, .ireturn, 142, 0, 0, .null, [])])
def t_X5_versions : e_M := ((RX5, yX5_versions, cX5_versions, 2, (some FieldType.int)), [(0, .aload_n 0, 1, 0, 0, .null, []),
  (1, .iconst 0, 2, 0, 0, .int 0, []),
  (2, .putfield 78, 5, 5, 0, .int 0, []),
  (5, .aload_n 0, 6, 0, 0, .null, []),
  (6, .iload_n 1, 7, 1, 0, .null, []),
  (7, .iconst 0, 8, 0, 0, .int 0, []),
  (8, .invokevirtual 108, 11, 78, 2, .null, [5]),
  (11, .ifCond .ne 5, 14, 16, 0, .null, []),
  (14, .iconst 1, 15, 0, 0, .int 1, []),
  (15, .ireturn, 16, 0, 0, .null, []),
  (16, .aload_n 0, 17, 0, 0, .null, []),
  (17, .iload_n 1, 18, 1, 0, .null, []),
  (18, .iconst 4, 19, 0, 0, .int 4, []),
  (19, .invokevirtual 112, 22, 80, 2, .null, [5]),
  (22, .iconst 0, 23, 0, 0, .int 0, []),
  (23, .ireturn, 24, 0, 0, .null, [])])
def t_X5_finalise : e_M := ((RX5, yX5_finalise, cX5_finalise, 3, (some FieldType.int)), [(0, .aload_n 0, 1, 0, 0, .null, []),
  (1, .iconst 0, 2, 0, 0, .int 0, []),
  (2, .putfield 78, 5, 5, 0, .int 0, []),
  (5, .aload_n 0, 6, 0, 0, .null, []),
  (6, .iload_n 1, 7, 1, 0, .null, []),
  (7, .iconst 1, 8, 0, 0, .int 1, []),
  (8, .invokevirtual 108, 11, 78, 2, .null, [5]),
  (11, .ifCond .ne 5, 14, 16, 0, .null, []),
  (14, .iconst 1, 15, 0, 0, .int 1, []),
  (15, .ireturn, 16, 0, 0, .null, []),
  (16, .aload_n 0, 17, 0, 0, .null, []),
  (17, .getfield 25, 20, 5, 7, .null, []),
  (20, .iload_n 1, 21, 1, 0, .null, []),
  (21, .iaload, 22, 0, 0, .null, []),
  (22, .ifCond .eq 5, 25, 27, 0, .null, []),
  (25, .iconst 2, 26, 0, 0, .int 2, []),
  (26, .ireturn, 27, 0, 0, .null, []),
  (27, .iconst 0, 28, 0, 0, .int 0, []),
  (28, .istore_n 2, 29, 2, 0, .null, []),
  (29, .iload_n 2, 30, 2, 0, .null, []),
  (30, .bipush 8, 32, 0, 0, .int 8, []),
  (32, .if_icmp .ge 26, 35, 58, 0, .null, []),
  (35, .aload_n 0, 36, 0, 0, .null, []),
  (36, .getfield 43, 39, 5, 18, .null, []),
  (39, .iload_n 2, 40, 2, 0, .null, []),
  (40, .aload_n 0, 41, 0, 0, .null, []),
  (41, .getfield 31, 44, 5, 9, .null, []),
  (44, .bipush 8, 46, 0, 0, .int 8, []),
  (46, .iload_n 1, 47, 1, 0, .null, []),
  (47, .imul, 48, 0, 0, .null, []),
  (48, .iload_n 2, 49, 2, 0, .null, []),
  (49, .iadd, 50, 0, 0, .null, []),
  (50, .iaload, 51, 0, 0, .null, []),
  (51, .iastore, 52, 0, 0, .null, []),
  (52, .iinc 2 1, 55, 2, 0, .int (1), []),
  (55, .goto (-26), 58, 29, 0, .null, []),
  (58, .aload_n 0, 59, 0, 0, .null, []),
  (59, .getfield 43, 62, 5, 18, .null, []),
  (62, .bipush 8, 64, 0, 0, .int 8, []),
  (64, .iconst (-1), 65, 0, 0, .int (-1), []),
  (65, .iastore, 66, 0, 0, .null, []),
  (66, .aload_n 0, 67, 0, 0, .null, []),
  (67, .bipush 9, 69, 0, 0, .int 9, []),
  (69, .invokevirtual 74, 72, 72, 1, .null, [5]),
  (72, .iconst 0, 73, 0, 0, .int 0, []),
  (73, .istore_n 2, 74, 2, 0, .null, []),
  (74, .iload_n 2, 75, 2, 0, .null, []),
  (75, .bipush 8, 77, 0, 0, .int 8, []),
  (77, .if_icmp .ge 26, 80, 103, 0, .null, []),
  (80, .aload_n 0, 81, 0, 0, .null, []),
  (81, .getfield 31, 84, 5, 9, .null, []),
  (84, .bipush 8, 86, 0, 0, .int 8, []),
  (86, .iload_n 1, 87, 1, 0, .null, []),
  (87, .imul, 88, 0, 0, .null, []),
  (88, .iload_n 2, 89, 2, 0, .null, []),
  (89, .iadd, 90, 0, 0, .null, []),
  (90, .aload_n 0, 91, 0, 0, .null, []),
  (91, .getfield 46, 94, 5, 19, .null, []),
  (94, .iload_n 2, 95, 2, 0, .null, []),
  (95, .iaload, 96, 0, 0, .null, []),
  (96, .iastore, 97, 0, 0, .null, []),
  (97, .iinc 2 1, 100, 2, 0, .int (1), []),
  (100, .goto (-26), 103, 74, 0, .null, []),
  (103, .aload_n 0, 104, 0, 0, .null, []),
  (104, .getfield 25, 107, 5, 7, .null, []),
  (107, .iload_n 1, 108, 1, 0, .null, []),
  (108, .iconst 1, 109, 0, 0, .int 1, []),
  (109, .iastore, 110, 0, 0, .null, []),
  (110, .iconst 0, 111, 0, 0, .int 0, []),
  (111, .ireturn, 112, 0, 0, .null, [])])
def t_X5_stop : e_M := ((RX5, yX5_stop, cX5_stop, 2, (some FieldType.int)), [(0, .aload_n 0, 1, 0, 0, .null, []),
  (1, .iconst 0, 2, 0, 0, .int 0, []),
  (2, .putfield 78, 5, 5, 0, .int 0, []),
  (5, .aload_n 0, 6, 0, 0, .null, []),
  (6, .iload_n 1, 7, 1, 0, .null, []),
  (7, .iconst 1, 8, 0, 0, .int 1, []),
  (8, .invokevirtual 108, 11, 78, 2, .null, [5]),
  (11, .ifCond .ne 5, 14, 16, 0, .null, []),
  (14, .iconst 1, 15, 0, 0, .int 1, []),
  (15, .ireturn, 16, 0, 0, .null, []),
  (16, .aload_n 0, 17, 0, 0, .null, []),
  (17, .getfield 25, 20, 5, 7, .null, []),
  (20, .iload_n 1, 21, 1, 0, .null, []),
  (21, .iaload, 22, 0, 0, .null, []),
  (22, .iconst 2, 23, 0, 0, .int 2, []),
  (23, .if_icmp .ne 5, 26, 28, 0, .null, []),
  (26, .iconst 2, 27, 0, 0, .int 2, []),
  (27, .ireturn, 28, 0, 0, .null, []),
  (28, .aload_n 0, 29, 0, 0, .null, []),
  (29, .getfield 25, 32, 5, 7, .null, []),
  (32, .iload_n 1, 33, 1, 0, .null, []),
  (33, .iconst 2, 34, 0, 0, .int 2, []),
  (34, .iastore, 35, 0, 0, .null, []),
  (35, .iconst 0, 36, 0, 0, .int 0, []),
  (36, .ireturn, 37, 0, 0, .null, [])])
def t_X5_remove : e_M := ((RX5, yX5_remove, cX5_remove, 2, (some FieldType.int)), [(0, .aload_n 0, 1, 0, 0, .null, []),
  (1, .iconst 0, 2, 0, 0, .int 0, []),
  (2, .putfield 78, 5, 5, 0, .int 0, []),
  (5, .iload_n 1, 6, 1, 0, .null, []),
  (6, .ifCond .lt 20, 9, 26, 0, .null, []),
  (9, .iload_n 1, 10, 1, 0, .null, []),
  (10, .aload_n 0, 11, 0, 0, .null, []),
  (11, .getfield 71, 14, 5, 1, .null, []),
  (14, .if_icmp .ge 12, 17, 26, 0, .null, []),
  (17, .aload_n 0, 18, 0, 0, .null, []),
  (18, .getfield 9, 21, 5, 2, .null, []),
  (21, .iload_n 1, 22, 1, 0, .null, []),
  (22, .iaload, 23, 0, 0, .null, []),
  (23, .ifCond .ne 5, 26, 28, 0, .null, []),
  (26, .iconst 1, 27, 0, 0, .int 1, []),
  (27, .ireturn, 28, 0, 0, .null, []),
  (28, .aload_n 0, 29, 0, 0, .null, []),
  (29, .getfield 13, 32, 5, 3, .null, []),
  (32, .iload_n 1, 33, 1, 0, .null, []),
  (33, .iaload, 34, 0, 0, .null, []),
  (34, .iconst (-1), 35, 0, 0, .int (-1), []),
  (35, .if_icmp .eq 20, 38, 55, 0, .null, []),
  (38, .aload_n 0, 39, 0, 0, .null, []),
  (39, .getfield 25, 42, 5, 7, .null, []),
  (42, .aload_n 0, 43, 0, 0, .null, []),
  (43, .getfield 13, 46, 5, 3, .null, []),
  (46, .iload_n 1, 47, 1, 0, .null, []),
  (47, .iaload, 48, 0, 0, .null, []),
  (48, .iaload, 49, 0, 0, .null, []),
  (49, .iconst 2, 50, 0, 0, .int 2, []),
  (50, .if_icmp .eq 5, 53, 55, 0, .null, []),
  (53, .iconst 2, 54, 0, 0, .int 2, []),
  (54, .ireturn, 55, 0, 0, .null, []),
  (55, .aload_n 0, 56, 0, 0, .null, []),
  (56, .getfield 9, 59, 5, 2, .null, []),
  (59, .iload_n 1, 60, 1, 0, .null, []),
  (60, .iaload, 61, 0, 0, .null, []),
  (61, .iconst 1, 62, 0, 0, .int 1, []),
  (62, .if_icmp .ne 23, 65, 85, 0, .null, []),
  (65, .aload_n 0, 66, 0, 0, .null, []),
  (66, .getfield 25, 69, 5, 7, .null, []),
  (69, .iload_n 1, 70, 1, 0, .null, []),
  (70, .iaload, 71, 0, 0, .null, []),
  (71, .iconst 2, 72, 0, 0, .int 2, []),
  (72, .if_icmp .ne 11, 75, 83, 0, .null, []),
  (75, .aload_n 0, 76, 0, 0, .null, []),
  (76, .iload_n 1, 77, 1, 0, .null, []),
  (77, .invokevirtual 125, 80, 79, 1, .null, [5]),
  (80, .ifCond .le 5, 83, 85, 0, .null, []),
  (83, .iconst 2, 84, 0, 0, .int 2, []),
  (84, .ireturn, 85, 0, 0, .null, []),
  (85, .aload_n 0, 86, 0, 0, .null, []),
  (86, .iload_n 1, 87, 1, 0, .null, []),
  (87, .iconst 0, 88, 0, 0, .int 0, []),
  (88, .invokevirtual 112, 91, 80, 2, .null, [5]),
  (91, .iconst 0, 92, 0, 0, .int 0, []),
  (92, .ireturn, 93, 0, 0, .null, [])])
def t_X5_enter : e_M := ((RX5, yX5_enter, cX5_enter, 6, (some FieldType.int)), [(0, .aload_n 0, 1, 0, 0, .null, []),
  (1, .iconst 0, 2, 0, 0, .int 0, []),
  (2, .putfield 78, 5, 5, 0, .int 0, []),
  (5, .aload_n 0, 6, 0, 0, .null, []),
  (6, .iload_n 1, 7, 1, 0, .null, []),
  (7, .iconst 2, 8, 0, 0, .int 2, []),
  (8, .invokevirtual 108, 11, 78, 2, .null, [5]),
  (11, .ifCond .ne 5, 14, 16, 0, .null, []),
  (14, .iconst (-1), 15, 0, 0, .int (-1), []),
  (15, .ireturn, 16, 0, 0, .null, []),
  (16, .aload_n 0, 17, 0, 0, .null, []),
  (17, .getfield 25, 20, 5, 7, .null, []),
  (20, .aload_n 0, 21, 0, 0, .null, []),
  (21, .getfield 13, 24, 5, 3, .null, []),
  (24, .iload_n 1, 25, 1, 0, .null, []),
  (25, .iaload, 26, 0, 0, .null, []),
  (26, .iaload, 27, 0, 0, .null, []),
  (27, .iconst 1, 28, 0, 0, .int 1, []),
  (28, .if_icmp .ne 17, 31, 45, 0, .null, []),
  (31, .aload_n 0, 32, 0, 0, .null, []),
  (32, .getfield 28, 35, 5, 8, .null, []),
  (35, .bipush 32, 37, 0, 0, .int 32, []),
  (37, .iload_n 1, 38, 1, 0, .null, []),
  (38, .imul, 39, 0, 0, .null, []),
  (39, .iconst 1, 40, 0, 0, .int 1, []),
  (40, .iadd, 41, 0, 0, .null, []),
  (41, .iaload, 42, 0, 0, .null, []),
  (42, .ifCond .eq 6, 45, 48, 0, .null, []),
  (45, .bipush (-2), 47, 0, 0, .int (-2), []),
  (47, .ireturn, 48, 0, 0, .null, []),
  (48, .iload 4, 50, 4, 0, .null, []),
  (50, .ifCond .lt 11, 53, 61, 0, .null, []),
  (53, .iload 4, 55, 4, 0, .null, []),
  (55, .sipush 5000, 58, 0, 0, .int 5000, []),
  (58, .if_icmp .le 6, 61, 64, 0, .null, []),
  (61, .bipush (-6), 63, 0, 0, .int (-6), []),
  (63, .ireturn, 64, 0, 0, .null, []),
  (64, .iconst 0, 65, 0, 0, .int 0, []),
  (65, .istore 5, 67, 5, 0, .null, []),
  (67, .iload 5, 69, 5, 0, .null, []),
  (69, .bipush 8, 71, 0, 0, .int 8, []),
  (71, .if_icmp .ge 17, 74, 88, 0, .null, []),
  (74, .aload_n 0, 75, 0, 0, .null, []),
  (75, .getfield 61, 78, 5, 24, .null, []),
  (78, .iload 5, 80, 5, 0, .null, []),
  (80, .iconst 0, 81, 0, 0, .int 0, []),
  (81, .iastore, 82, 0, 0, .null, []),
  (82, .iinc 5 1, 85, 5, 0, .int (1), []),
  (85, .goto (-18), 88, 67, 0, .null, []),
  (88, .aload_n 0, 89, 0, 0, .null, []),
  (89, .getfield 61, 92, 5, 24, .null, []),
  (92, .iconst 0, 93, 0, 0, .int 0, []),
  (93, .iload_n 2, 94, 2, 0, .null, []),
  (94, .iastore, 95, 0, 0, .null, []),
  (95, .aload_n 0, 96, 0, 0, .null, []),
  (96, .getfield 61, 99, 5, 24, .null, []),
  (99, .iconst 1, 100, 0, 0, .int 1, []),
  (100, .iload_n 3, 101, 3, 0, .null, []),
  (101, .iastore, 102, 0, 0, .null, []),
  (102, .aload_n 0, 103, 0, 0, .null, []),
  (103, .aload_n 0, 104, 0, 0, .null, []),
  (104, .getfield 28, 107, 5, 8, .null, []),
  (107, .bipush 32, 109, 0, 0, .int 32, []),
  (109, .iload_n 1, 110, 1, 0, .null, []),
  (110, .imul, 111, 0, 0, .null, []),
  (111, .iaload, 112, 0, 0, .null, []),
  (112, .putfield 129, 115, 5, 25, .int 0, []),
  (115, .aload_n 0, 116, 0, 0, .null, []),
  (116, .iload_n 1, 117, 1, 0, .null, []),
  (117, .iload 4, 119, 4, 0, .null, []),
  (119, .invokevirtual 132, 122, 94, 2, .null, [5]),
  (122, .ireturn, 123, 0, 0, .null, [])])
def t_X5_resume : e_M := ((RX5, yX5_resume, cX5_resume, 4, (some FieldType.int)), [(0, .aload_n 0, 1, 0, 0, .null, []),
  (1, .iconst 0, 2, 0, 0, .int 0, []),
  (2, .putfield 78, 5, 5, 0, .int 0, []),
  (5, .aload_n 0, 6, 0, 0, .null, []),
  (6, .iload_n 1, 7, 1, 0, .null, []),
  (7, .iconst 2, 8, 0, 0, .int 2, []),
  (8, .invokevirtual 108, 11, 78, 2, .null, [5]),
  (11, .ifCond .ne 5, 14, 16, 0, .null, []),
  (14, .iconst (-1), 15, 0, 0, .int (-1), []),
  (15, .ireturn, 16, 0, 0, .null, []),
  (16, .aload_n 0, 17, 0, 0, .null, []),
  (17, .getfield 25, 20, 5, 7, .null, []),
  (20, .aload_n 0, 21, 0, 0, .null, []),
  (21, .getfield 13, 24, 5, 3, .null, []),
  (24, .iload_n 1, 25, 1, 0, .null, []),
  (25, .iaload, 26, 0, 0, .null, []),
  (26, .iaload, 27, 0, 0, .null, []),
  (27, .iconst 1, 28, 0, 0, .int 1, []),
  (28, .if_icmp .ne 17, 31, 45, 0, .null, []),
  (31, .aload_n 0, 32, 0, 0, .null, []),
  (32, .getfield 28, 35, 5, 8, .null, []),
  (35, .bipush 32, 37, 0, 0, .int 32, []),
  (37, .iload_n 1, 38, 1, 0, .null, []),
  (38, .imul, 39, 0, 0, .null, []),
  (39, .iconst 1, 40, 0, 0, .int 1, []),
  (40, .iadd, 41, 0, 0, .null, []),
  (41, .iaload, 42, 0, 0, .null, []),
  (42, .ifCond .ne 6, 45, 48, 0, .null, []),
  (45, .bipush (-2), 47, 0, 0, .int (-2), []),
  (47, .ireturn, 48, 0, 0, .null, []),
  (48, .iload_n 2, 49, 2, 0, .null, []),
  (49, .ifCond .lt 10, 52, 59, 0, .null, []),
  (52, .iload_n 2, 53, 2, 0, .null, []),
  (53, .sipush 5000, 56, 0, 0, .int 5000, []),
  (56, .if_icmp .le 6, 59, 62, 0, .null, []),
  (59, .bipush (-6), 61, 0, 0, .int (-6), []),
  (61, .ireturn, 62, 0, 0, .null, []),
  (62, .iconst 0, 63, 0, 0, .int 0, []),
  (63, .istore_n 3, 64, 3, 0, .null, []),
  (64, .iload_n 3, 65, 3, 0, .null, []),
  (65, .bipush 8, 67, 0, 0, .int 8, []),
  (67, .if_icmp .ge 28, 70, 95, 0, .null, []),
  (70, .aload_n 0, 71, 0, 0, .null, []),
  (71, .getfield 61, 74, 5, 24, .null, []),
  (74, .iload_n 3, 75, 3, 0, .null, []),
  (75, .aload_n 0, 76, 0, 0, .null, []),
  (76, .getfield 28, 79, 5, 8, .null, []),
  (79, .bipush 32, 81, 0, 0, .int 32, []),
  (81, .iload_n 1, 82, 1, 0, .null, []),
  (82, .imul, 83, 0, 0, .null, []),
  (83, .iconst 3, 84, 0, 0, .int 3, []),
  (84, .iadd, 85, 0, 0, .null, []),
  (85, .iload_n 3, 86, 3, 0, .null, []),
  (86, .iadd, 87, 0, 0, .null, []),
  (87, .iaload, 88, 0, 0, .null, []),
  (88, .iastore, 89, 0, 0, .null, []),
  (89, .iinc 3 1, 92, 3, 0, .int (1), []),
  (92, .goto (-28), 95, 64, 0, .null, []),
  (95, .aload_n 0, 96, 0, 0, .null, []),
  (96, .aload_n 0, 97, 0, 0, .null, []),
  (97, .getfield 28, 100, 5, 8, .null, []),
  (100, .bipush 32, 102, 0, 0, .int 32, []),
  (102, .iload_n 1, 103, 1, 0, .null, []),
  (103, .imul, 104, 0, 0, .null, []),
  (104, .iconst 2, 105, 0, 0, .int 2, []),
  (105, .iadd, 106, 0, 0, .null, []),
  (106, .iaload, 107, 0, 0, .null, []),
  (107, .putfield 129, 110, 5, 25, .int 0, []),
  (110, .aload_n 0, 111, 0, 0, .null, []),
  (111, .iload_n 1, 112, 1, 0, .null, []),
  (112, .iload_n 2, 113, 2, 0, .null, []),
  (113, .invokevirtual 132, 116, 94, 2, .null, [5]),
  (116, .ireturn, 117, 0, 0, .null, [])])
def t_X5_run : e_M := ((RX5, yX5_run, cX5_run, 5, (some FieldType.int)), [(0, .aload_n 0, 1, 0, 0, .null, []),
  (1, .iconst 0, 2, 0, 0, .int 0, []),
  (2, .putfield 135, 5, 5, 26, .int 0, []),
  (5, .aload_n 0, 6, 0, 0, .null, []),
  (6, .iconst 0, 7, 0, 0, .int 0, []),
  (7, .putfield 138, 10, 5, 28, .int 0, []),
  (10, .aload_n 0, 11, 0, 0, .null, []),
  (11, .iconst (-1), 12, 0, 0, .int (-1), []),
  (12, .putfield 68, 15, 5, 29, .int 0, []),
  (15, .aload_n 0, 16, 0, 0, .null, []),
  (16, .iconst (-1), 17, 0, 0, .int (-1), []),
  (17, .putfield 64, 20, 5, 27, .int 0, []),
  (20, .aload_n 0, 21, 0, 0, .null, []),
  (21, .getfield 64, 24, 5, 27, .null, []),
  (24, .iconst (-1), 25, 0, 0, .int (-1), []),
  (25, .if_icmp .ne 32, 28, 57, 0, .null, []),
  (28, .aload_n 0, 29, 0, 0, .null, []),
  (29, .getfield 135, 32, 5, 26, .null, []),
  (32, .iload_n 2, 33, 2, 0, .null, []),
  (33, .if_icmp .ne 11, 36, 44, 0, .null, []),
  (36, .aload_n 0, 37, 0, 0, .null, []),
  (37, .iconst 2, 38, 0, 0, .int 2, []),
  (38, .putfield 64, 41, 5, 27, .int 0, []),
  (41, .goto (-21), 44, 20, 0, .null, []),
  (44, .aload_n 0, 45, 0, 0, .null, []),
  (45, .aload_n 0, 46, 0, 0, .null, []),
  (46, .getfield 13, 49, 5, 3, .null, []),
  (49, .iload_n 1, 50, 1, 0, .null, []),
  (50, .iaload, 51, 0, 0, .null, []),
  (51, .invokevirtual 141, 54, 96, 1, .null, [5]),
  (54, .goto (-34), 57, 20, 0, .null, []),
  (57, .bipush 32, 59, 0, 0, .int 32, []),
  (59, .iload_n 1, 60, 1, 0, .null, []),
  (60, .imul, 61, 0, 0, .null, []),
  (61, .istore_n 3, 62, 3, 0, .null, []),
  (62, .aload_n 0, 63, 0, 0, .null, []),
  (63, .getfield 28, 66, 5, 8, .null, []),
  (66, .iload_n 3, 67, 3, 0, .null, []),
  (67, .iconst 1, 68, 0, 0, .int 1, []),
  (68, .iadd, 69, 0, 0, .null, []),
  (69, .aload_n 0, 70, 0, 0, .null, []),
  (70, .getfield 64, 73, 5, 27, .null, []),
  (73, .ifCond .ne 7, 76, 80, 0, .null, []),
  (76, .iconst 0, 77, 0, 0, .int 0, []),
  (77, .goto 4, 80, 81, 0, .null, []),
  (80, .iconst 1, 81, 0, 0, .int 1, []),
  (81, .iastore, 82, 0, 0, .null, []),
  (82, .aload_n 0, 83, 0, 0, .null, []),
  (83, .getfield 28, 86, 5, 8, .null, []),
  (86, .iload_n 3, 87, 3, 0, .null, []),
  (87, .iconst 2, 88, 0, 0, .int 2, []),
  (88, .iadd, 89, 0, 0, .null, []),
  (89, .aload_n 0, 90, 0, 0, .null, []),
  (90, .getfield 64, 93, 5, 27, .null, []),
  (93, .ifCond .ne 7, 96, 100, 0, .null, []),
  (96, .iconst 0, 97, 0, 0, .int 0, []),
  (97, .goto 7, 100, 104, 0, .null, []),
  (100, .aload_n 0, 101, 0, 0, .null, []),
  (101, .getfield 129, 104, 5, 25, .null, []),
  (104, .iastore, 105, 0, 0, .null, []),
  (105, .iconst 0, 106, 0, 0, .int 0, []),
  (106, .istore 4, 108, 4, 0, .null, []),
  (108, .iload 4, 110, 4, 0, .null, []),
  (110, .bipush 8, 112, 0, 0, .int 8, []),
  (112, .if_icmp .ge 38, 115, 150, 0, .null, []),
  (115, .aload_n 0, 116, 0, 0, .null, []),
  (116, .getfield 28, 119, 5, 8, .null, []),
  (119, .iload_n 3, 120, 3, 0, .null, []),
  (120, .iconst 3, 121, 0, 0, .int 3, []),
  (121, .iadd, 122, 0, 0, .null, []),
  (122, .iload 4, 124, 4, 0, .null, []),
  (124, .iadd, 125, 0, 0, .null, []),
  (125, .aload_n 0, 126, 0, 0, .null, []),
  (126, .getfield 64, 129, 5, 27, .null, []),
  (129, .ifCond .ne 7, 132, 136, 0, .null, []),
  (132, .iconst 0, 133, 0, 0, .int 0, []),
  (133, .goto 10, 136, 143, 0, .null, []),
  (136, .aload_n 0, 137, 0, 0, .null, []),
  (137, .getfield 61, 140, 5, 24, .null, []),
  (140, .iload 4, 142, 4, 0, .null, []),
  (142, .iaload, 143, 0, 0, .null, []),
  (143, .iastore, 144, 0, 0, .null, []),
  (144, .iinc 4 1, 147, 4, 0, .int (1), []),
  (147, .goto (-39), 150, 108, 0, .null, []),
  (150, .aload_n 0, 151, 0, 0, .null, []),
  (151, .getfield 64, 154, 5, 27, .null, []),
  (154, .ireturn, 155, 0, 0, .null, [])])
def t_X5_reach : e_M := ((RX5, yX5_reach, cX5_reach, 5, (some FieldType.int)), [(0, .iload_n 2, 1, 2, 0, .null, []),
  (1, .ifCond .lt 10, 4, 11, 0, .null, []),
  (4, .iload_n 2, 5, 2, 0, .null, []),
  (5, .sipush 1023, 8, 0, 0, .int 1023, []),
  (8, .if_icmp .le 7, 11, 15, 0, .null, []),
  (11, .iconst (-1), 12, 0, 0, .int (-1), []),
  (12, .goto 12, 15, 24, 0, .null, []),
  (15, .aload_n 0, 16, 0, 0, .null, []),
  (16, .iload_n 1, 17, 1, 0, .null, []),
  (17, .iload_n 2, 18, 2, 0, .null, []),
  (18, .bipush 32, 20, 0, 0, .int 32, []),
  (20, .idiv, 21, 0, 0, .null, []),
  (21, .invokevirtual 122, 24, 86, 2, .null, [5]),
  (24, .istore 4, 26, 4, 0, .null, []),
  (26, .iload 4, 28, 4, 0, .null, []),
  (28, .iconst (-1), 29, 0, 0, .int (-1), []),
  (29, .if_icmp .eq 26, 32, 55, 0, .null, []),
  (32, .aload_n 0, 33, 0, 0, .null, []),
  (33, .getfield 19, 36, 5, 5, .null, []),
  (36, .iload 4, 38, 4, 0, .null, []),
  (38, .iaload, 39, 0, 0, .null, []),
  (39, .iload_n 3, 40, 3, 0, .null, []),
  (40, .iand, 41, 0, 0, .null, []),
  (41, .ifCond .eq 14, 44, 55, 0, .null, []),
  (44, .bipush 32, 46, 0, 0, .int 32, []),
  (46, .iload 4, 48, 4, 0, .null, []),
  (48, .imul, 49, 0, 0, .null, []),
  (49, .iload_n 2, 50, 2, 0, .null, []),
  (50, .bipush 32, 52, 0, 0, .int 32, []),
  (52, .irem, 53, 0, 0, .null, []),
  (53, .iadd, 54, 0, 0, .null, []),
  (54, .ireturn, 55, 0, 0, .null, []),
  (55, .aload_n 0, 56, 0, 0, .null, []),
  (56, .iconst 1, 57, 0, 0, .int 1, []),
  (57, .putfield 64, 60, 5, 27, .int 0, []),
  (60, .aload_n 0, 61, 0, 0, .null, []),
  (61, .iload_n 2, 62, 2, 0, .null, []),
  (62, .ifCond .lt 10, 65, 72, 0, .null, []),
  (65, .iload_n 2, 66, 2, 0, .null, []),
  (66, .sipush 1023, 69, 0, 0, .int 1023, []),
  (69, .if_icmp .le 7, 72, 76, 0, .null, []),
  (72, .iconst (-1), 73, 0, 0, .int (-1), []),
  (73, .goto 7, 76, 80, 0, .null, []),
  (76, .iload_n 2, 77, 2, 0, .null, []),
  (77, .bipush 32, 79, 0, 0, .int 32, []),
  (79, .idiv, 80, 0, 0, .null, []),
  (80, .putfield 68, 83, 5, 29, .int 0, []),
  (83, .iconst (-1), 84, 0, 0, .int (-1), []),
  (84, .ireturn, 85, 0, 0, .null, [])])
def t_X5_step : e_M := ((RX5, yX5_step, cX5_step, 11, (Option.none : Option FieldType)), [(0, .aload_n 0, 1, 0, 0, .null, []),
  (1, .iload_n 1, 2, 1, 0, .null, []),
  (2, .aload_n 0, 3, 0, 0, .null, []),
  (3, .getfield 129, 6, 5, 25, .null, []),
  (6, .iconst 4, 7, 0, 0, .int 4, []),
  (7, .invokevirtual 144, 10, 95, 3, .null, [5]),
  (10, .istore_n 2, 11, 2, 0, .null, []),
  (11, .iload_n 2, 12, 2, 0, .null, []),
  (12, .iconst (-1), 13, 0, 0, .int (-1), []),
  (13, .if_icmp .ne 4, 16, 17, 0, .null, []),
  (16, .return_, 17, 0, 0, .null, []),
  (17, .aload_n 0, 18, 0, 0, .null, []),
  (18, .getfield 28, 21, 5, 8, .null, []),
  (21, .iload_n 2, 22, 2, 0, .null, []),
  (22, .iaload, 23, 0, 0, .null, []),
  (23, .istore_n 3, 24, 3, 0, .null, []),
  (24, .iload_n 3, 25, 3, 0, .null, []),
  (25, .bipush 16, 27, 0, 0, .int 16, []),
  (27, .ishr, 28, 0, 0, .null, []),
  (28, .bipush 7, 30, 0, 0, .int 7, []),
  (30, .iand, 31, 0, 0, .null, []),
  (31, .istore 4, 33, 4, 0, .null, []),
  (33, .iload_n 3, 34, 3, 0, .null, []),
  (34, .bipush 8, 36, 0, 0, .int 8, []),
  (36, .ishr, 37, 0, 0, .null, []),
  (37, .bipush 7, 39, 0, 0, .int 7, []),
  (39, .iand, 40, 0, 0, .null, []),
  (40, .istore 5, 42, 5, 0, .null, []),
  (42, .iload_n 3, 43, 3, 0, .null, []),
  (43, .bipush 7, 45, 0, 0, .int 7, []),
  (45, .iand, 46, 0, 0, .null, []),
  (46, .istore 6, 48, 6, 0, .null, []),
  (48, .iload_n 3, 49, 3, 0, .null, []),
  (49, .sipush 255, 52, 0, 0, .int 255, []),
  (52, .iand, 53, 0, 0, .null, []),
  (53, .istore 7, 55, 7, 0, .null, []),
  (55, .iload_n 3, 56, 3, 0, .null, []),
  (56, .i2s, 57, 0, 0, .null, []),
  (57, .istore 8, 59, 8, 0, .null, []),
  (59, .aload_n 0, 60, 0, 0, .null, []),
  (60, .getfield 129, 63, 5, 25, .null, []),
  (63, .iconst 1, 64, 0, 0, .int 1, []),
  (64, .iadd, 65, 0, 0, .null, []),
  (65, .istore 9, 67, 9, 0, .null, []),
  (67, .iload_n 3, 68, 3, 0, .null, []),
  (68, .bipush 24, 70, 0, 0, .int 24, []),
  (70, .iushr, 71, 0, 0, .null, []),
  (71, .tableswitch 315 0 9 #[53, 72, 84, 109, 134, 159, 201, 243, 270, 293], 124, 0, 0, .null, [386, 124, 143, 155, 180, 205, 230, 272, 314, 341, 364]),
  (124, .aload_n 0, 125, 0, 0, .null, []),
  (125, .iconst 0, 126, 0, 0, .int 0, []),
  (126, .putfield 64, 129, 5, 27, .int 0, []),
  (129, .aload_n 0, 130, 0, 0, .null, []),
  (130, .aload_n 0, 131, 0, 0, .null, []),
  (131, .getfield 61, 134, 5, 24, .null, []),
  (134, .iload 4, 136, 4, 0, .null, []),
  (136, .iaload, 137, 0, 0, .null, []),
  (137, .putfield 138, 140, 5, 28, .int 0, []),
  (140, .goto 252, 143, 392, 0, .null, []),
  (143, .aload_n 0, 144, 0, 0, .null, []),
  (144, .getfield 61, 147, 5, 24, .null, []),
  (147, .iload 4, 149, 4, 0, .null, []),
  (149, .iload 8, 151, 8, 0, .null, []),
  (151, .iastore, 152, 0, 0, .null, []),
  (152, .goto 240, 155, 392, 0, .null, []),
  (155, .aload_n 0, 156, 0, 0, .null, []),
  (156, .getfield 61, 159, 5, 24, .null, []),
  (159, .iload 4, 161, 4, 0, .null, []),
  (161, .aload_n 0, 162, 0, 0, .null, []),
  (162, .getfield 61, 165, 5, 24, .null, []),
  (165, .iload 5, 167, 5, 0, .null, []),
  (167, .iaload, 168, 0, 0, .null, []),
  (168, .aload_n 0, 169, 0, 0, .null, []),
  (169, .getfield 61, 172, 5, 24, .null, []),
  (172, .iload 6, 174, 6, 0, .null, []),
  (174, .iaload, 175, 0, 0, .null, []),
  (175, .iadd, 176, 0, 0, .null, []),
  (176, .iastore, 177, 0, 0, .null, []),
  (177, .goto 215, 180, 392, 0, .null, []),
  (180, .aload_n 0, 181, 0, 0, .null, []),
  (181, .getfield 61, 184, 5, 24, .null, []),
  (184, .iload 4, 186, 4, 0, .null, []),
  (186, .aload_n 0, 187, 0, 0, .null, []),
  (187, .getfield 61, 190, 5, 24, .null, []),
  (190, .iload 5, 192, 5, 0, .null, []),
  (192, .iaload, 193, 0, 0, .null, []),
  (193, .aload_n 0, 194, 0, 0, .null, []),
  (194, .getfield 61, 197, 5, 24, .null, []),
  (197, .iload 6, 199, 6, 0, .null, []),
  (199, .iaload, 200, 0, 0, .null, []),
  (200, .ixor, 201, 0, 0, .null, []),
  (201, .iastore, 202, 0, 0, .null, []),
  (202, .goto 190, 205, 392, 0, .null, []),
  (205, .aload_n 0, 206, 0, 0, .null, []),
  (206, .getfield 61, 209, 5, 24, .null, []),
  (209, .iload 4, 211, 4, 0, .null, []),
  (211, .aload_n 0, 212, 0, 0, .null, []),
  (212, .getfield 61, 215, 5, 24, .null, []),
  (215, .iload 5, 217, 5, 0, .null, []),
  (217, .iaload, 218, 0, 0, .null, []),
  (218, .aload_n 0, 219, 0, 0, .null, []),
  (219, .getfield 61, 222, 5, 24, .null, []),
  (222, .iload 6, 224, 6, 0, .null, []),
  (224, .iaload, 225, 0, 0, .null, []),
  (225, .imul, 226, 0, 0, .null, []),
  (226, .iastore, 227, 0, 0, .null, []),
  (227, .goto 165, 230, 392, 0, .null, []),
  (230, .aload_n 0, 231, 0, 0, .null, []),
  (231, .iload_n 1, 232, 1, 0, .null, []),
  (232, .aload_n 0, 233, 0, 0, .null, []),
  (233, .getfield 61, 236, 5, 24, .null, []),
  (236, .iload 5, 238, 5, 0, .null, []),
  (238, .iaload, 239, 0, 0, .null, []),
  (239, .iload 7, 241, 7, 0, .null, []),
  (241, .iadd, 242, 0, 0, .null, []),
  (242, .iconst 1, 243, 0, 0, .int 1, []),
  (243, .invokevirtual 144, 246, 95, 3, .null, [5]),
  (246, .istore 10, 248, 10, 0, .null, []),
  (248, .iload 10, 250, 10, 0, .null, []),
  (250, .iconst (-1), 251, 0, 0, .int (-1), []),
  (251, .if_icmp .ne 4, 254, 255, 0, .null, []),
  (254, .return_, 255, 0, 0, .null, []),
  (255, .aload_n 0, 256, 0, 0, .null, []),
  (256, .getfield 61, 259, 5, 24, .null, []),
  (259, .iload 4, 261, 4, 0, .null, []),
  (261, .aload_n 0, 262, 0, 0, .null, []),
  (262, .getfield 28, 265, 5, 8, .null, []),
  (265, .iload 10, 267, 10, 0, .null, []),
  (267, .iaload, 268, 0, 0, .null, []),
  (268, .iastore, 269, 0, 0, .null, []),
  (269, .goto 123, 272, 392, 0, .null, []),
  (272, .aload_n 0, 273, 0, 0, .null, []),
  (273, .iload_n 1, 274, 1, 0, .null, []),
  (274, .aload_n 0, 275, 0, 0, .null, []),
  (275, .getfield 61, 278, 5, 24, .null, []),
  (278, .iload 5, 280, 5, 0, .null, []),
  (280, .iaload, 281, 0, 0, .null, []),
  (281, .iload 7, 283, 7, 0, .null, []),
  (283, .iadd, 284, 0, 0, .null, []),
  (284, .iconst 2, 285, 0, 0, .int 2, []),
  (285, .invokevirtual 144, 288, 95, 3, .null, [5]),
  (288, .istore 10, 290, 10, 0, .null, []),
  (290, .iload 10, 292, 10, 0, .null, []),
  (292, .iconst (-1), 293, 0, 0, .int (-1), []),
  (293, .if_icmp .ne 4, 296, 297, 0, .null, []),
  (296, .return_, 297, 0, 0, .null, []),
  (297, .aload_n 0, 298, 0, 0, .null, []),
  (298, .getfield 28, 301, 5, 8, .null, []),
  (301, .iload 10, 303, 10, 0, .null, []),
  (303, .aload_n 0, 304, 0, 0, .null, []),
  (304, .getfield 61, 307, 5, 24, .null, []),
  (307, .iload 4, 309, 4, 0, .null, []),
  (309, .iaload, 310, 0, 0, .null, []),
  (310, .iastore, 311, 0, 0, .null, []),
  (311, .goto 81, 314, 392, 0, .null, []),
  (314, .aload_n 0, 315, 0, 0, .null, []),
  (315, .getfield 61, 318, 5, 24, .null, []),
  (318, .iload 4, 320, 4, 0, .null, []),
  (320, .iaload, 321, 0, 0, .null, []),
  (321, .ifCond .eq 13, 324, 334, 0, .null, []),
  (324, .aload_n 0, 325, 0, 0, .null, []),
  (325, .getfield 129, 328, 5, 25, .null, []),
  (328, .iload 8, 330, 8, 0, .null, []),
  (330, .iadd, 331, 0, 0, .null, []),
  (331, .goto 5, 334, 336, 0, .null, []),
  (334, .iload 9, 336, 9, 0, .null, []),
  (336, .istore 9, 338, 9, 0, .null, []),
  (338, .goto 54, 341, 392, 0, .null, []),
  (341, .aload_n 0, 342, 0, 0, .null, []),
  (342, .getfield 61, 345, 5, 24, .null, []),
  (345, .iload 4, 347, 4, 0, .null, []),
  (347, .aload_n 0, 348, 0, 0, .null, []),
  (348, .getfield 61, 351, 5, 24, .null, []),
  (351, .iload 5, 353, 5, 0, .null, []),
  (353, .iaload, 354, 0, 0, .null, []),
  (354, .iload 7, 356, 7, 0, .null, []),
  (356, .bipush 31, 358, 0, 0, .int 31, []),
  (358, .iand, 359, 0, 0, .null, []),
  (359, .iushr, 360, 0, 0, .null, []),
  (360, .iastore, 361, 0, 0, .null, []),
  (361, .goto 31, 364, 392, 0, .null, []),
  (364, .aload_n 0, 365, 0, 0, .null, []),
  (365, .getfield 61, 368, 5, 24, .null, []),
  (368, .iload 4, 370, 4, 0, .null, []),
  (370, .aload_n 0, 371, 0, 0, .null, []),
  (371, .getfield 31, 374, 5, 9, .null, []),
  (374, .bipush 8, 376, 0, 0, .int 8, []),
  (376, .iload_n 1, 377, 1, 0, .null, []),
  (377, .imul, 378, 0, 0, .null, []),
  (378, .iload 6, 380, 6, 0, .null, []),
  (380, .iadd, 381, 0, 0, .null, []),
  (381, .iaload, 382, 0, 0, .null, []),
  (382, .iastore, 383, 0, 0, .null, []),
  (383, .goto 9, 386, 392, 0, .null, []),
  (386, .aload_n 0, 387, 0, 0, .null, []),
  (387, .iconst 3, 388, 0, 0, .int 3, []),
  (388, .putfield 64, 391, 5, 27, .int 0, []),
  (391, .return_, 392, 0, 0, .null, []),
  (392, .aload_n 0, 393, 0, 0, .null, []),
  (393, .dup, 394, 0, 0, .null, []),
  (394, .getfield 135, 397, 5, 26, .null, []),
  (397, .iconst 1, 398, 0, 0, .int 1, []),
  (398, .iadd, 399, 0, 0, .null, []),
  (399, .putfield 135, 402, 5, 26, .int 0, []),
  (402, .aload_n 0, 403, 0, 0, .null, []),
  (403, .getfield 64, 406, 5, 27, .null, []),
  (406, .ifCond .eq 9, 409, 415, 0, .null, []),
  (409, .aload_n 0, 410, 0, 0, .null, []),
  (410, .iload 9, 412, 9, 0, .null, []),
  (412, .putfield 129, 415, 5, 25, .int 0, []),
  (415, .return_, 416, 0, 0, .null, [])])
def t_X5_told : e_M := ((RX5, yX5_told, cX5_told, 2, (some FieldType.int)), [(0, .aload_n 0, 1, 0, 0, .null, []),
  (1, .iconst 0, 2, 0, 0, .int 0, []),
  (2, .putfield 78, 5, 5, 0, .int 0, []),
  (5, .aload_n 0, 6, 0, 0, .null, []),
  (6, .getfield 64, 9, 5, 27, .null, []),
  (9, .iconst (-1), 10, 0, 0, .int (-1), []),
  (10, .if_icmp .ne 5, 13, 15, 0, .null, []),
  (13, .iconst (-1), 14, 0, 0, .int (-1), []),
  (14, .ireturn, 15, 0, 0, .null, []),
  (15, .iload_n 1, 16, 1, 0, .null, []),
  (16, .tableswitch 52 0 3 #[32, 37, 42, 47], 48, 0, 0, .null, [68, 48, 53, 58, 63]),
  (48, .aload_n 0, 49, 0, 0, .null, []),
  (49, .getfield 64, 52, 5, 27, .null, []),
  (52, .ireturn, 53, 0, 0, .null, []),
  (53, .aload_n 0, 54, 0, 0, .null, []),
  (54, .getfield 138, 57, 5, 28, .null, []),
  (57, .ireturn, 58, 0, 0, .null, []),
  (58, .aload_n 0, 59, 0, 0, .null, []),
  (59, .getfield 68, 62, 5, 29, .null, []),
  (62, .ireturn, 63, 0, 0, .null, []),
  (63, .aload_n 0, 64, 0, 0, .null, []),
  (64, .getfield 135, 67, 5, 26, .null, []),
  (67, .ireturn, 68, 0, 0, .null, []),
  (68, .iconst (-1), 69, 0, 0, .int (-1), []),
  (69, .ireturn, 70, 0, 0, .null, [])])
def t_X5_inSlot : e_M := ((RX5, yX5_inSlot, cX5_inSlot, 3, (some FieldType.long)), [(0, .aload_n 0, 1, 0, 0, .null, []),
  (1, .getfield 28, 4, 5, 8, .null, []),
  (4, .bipush 32, 6, 0, 0, .int 32, []),
  (6, .iload_n 1, 7, 1, 0, .null, []),
  (7, .imul, 8, 0, 0, .null, []),
  (8, .iconst 2, 9, 0, 0, .int 2, []),
  (9, .iload_n 2, 10, 2, 0, .null, []),
  (10, .imul, 11, 0, 0, .null, []),
  (11, .iadd, 12, 0, 0, .null, []),
  (12, .iaload, 13, 0, 0, .null, []),
  (13, .i2l, 14, 0, 0, .null, []),
  (14, .bipush 32, 16, 0, 0, .int 32, []),
  (16, .lshl, 17, 0, 0, .null, []),
  (17, .aload_n 0, 18, 0, 0, .null, []),
  (18, .getfield 28, 21, 5, 8, .null, []),
  (21, .bipush 32, 23, 0, 0, .int 32, []),
  (23, .iload_n 1, 24, 1, 0, .null, []),
  (24, .imul, 25, 0, 0, .null, []),
  (25, .iconst 2, 26, 0, 0, .int 2, []),
  (26, .iload_n 2, 27, 2, 0, .null, []),
  (27, .imul, 28, 0, 0, .null, []),
  (28, .iadd, 29, 0, 0, .null, []),
  (29, .iconst 1, 30, 0, 0, .int 1, []),
  (30, .iadd, 31, 0, 0, .null, []),
  (31, .iaload, 32, 0, 0, .null, []),
  (32, .i2l, 33, 0, 0, .null, []),
  (33, .ldc2_w 148, 36, 0, 0, .long (4294967295), []),
  (36, .land, 37, 0, 0, .null, []),
  (37, .lor, 38, 0, 0, .null, []),
  (38, .lreturn, 39, 0, 0, .null, [])])
def t_X5_setSlot : e_M := ((RX5, yX5_setSlot, cX5_setSlot, 5, (Option.none : Option FieldType)), [(0, .aload_n 0, 1, 0, 0, .null, []),
  (1, .getfield 28, 4, 5, 8, .null, []),
  (4, .bipush 32, 6, 0, 0, .int 32, []),
  (6, .iload_n 1, 7, 1, 0, .null, []),
  (7, .imul, 8, 0, 0, .null, []),
  (8, .iconst 2, 9, 0, 0, .int 2, []),
  (9, .iload_n 2, 10, 2, 0, .null, []),
  (10, .imul, 11, 0, 0, .null, []),
  (11, .iadd, 12, 0, 0, .null, []),
  (12, .lload_n 3, 13, 3, 0, .null, []),
  (13, .bipush 32, 15, 0, 0, .int 32, []),
  (15, .lshr, 16, 0, 0, .null, []),
  (16, .l2i, 17, 0, 0, .null, []),
  (17, .iastore, 18, 0, 0, .null, []),
  (18, .aload_n 0, 19, 0, 0, .null, []),
  (19, .getfield 28, 22, 5, 8, .null, []),
  (22, .bipush 32, 24, 0, 0, .int 32, []),
  (24, .iload_n 1, 25, 1, 0, .null, []),
  (25, .imul, 26, 0, 0, .null, []),
  (26, .iconst 2, 27, 0, 0, .int 2, []),
  (27, .iload_n 2, 28, 2, 0, .null, []),
  (28, .imul, 29, 0, 0, .null, []),
  (29, .iadd, 30, 0, 0, .null, []),
  (30, .iconst 1, 31, 0, 0, .int 1, []),
  (31, .iadd, 32, 0, 0, .null, []),
  (32, .lload_n 3, 33, 3, 0, .null, []),
  (33, .l2i, 34, 0, 0, .null, []),
  (34, .iastore, 35, 0, 0, .null, []),
  (35, .return_, 36, 0, 0, .null, [])])
def t_X5_evict : e_M := ((RX5, yX5_evict, cX5_evict, 5, (some FieldType.int)), [(0, .aload_n 0, 1, 0, 0, .null, []),
  (1, .iconst 0, 2, 0, 0, .int 0, []),
  (2, .putfield 78, 5, 5, 0, .int 0, []),
  (5, .aload_n 0, 6, 0, 0, .null, []),
  (6, .iload_n 1, 7, 1, 0, .null, []),
  (7, .iconst 2, 8, 0, 0, .int 2, []),
  (8, .invokevirtual 108, 11, 78, 2, .null, [5]),
  (11, .ifCond .ne 12, 14, 23, 0, .null, []),
  (14, .aload_n 0, 15, 0, 0, .null, []),
  (15, .iload_n 1, 16, 1, 0, .null, []),
  (16, .iconst 3, 17, 0, 0, .int 3, []),
  (17, .invokevirtual 108, 20, 78, 2, .null, [5]),
  (20, .ifCond .eq 12, 23, 32, 0, .null, []),
  (23, .aload_n 0, 24, 0, 0, .null, []),
  (24, .iload_n 2, 25, 2, 0, .null, []),
  (25, .iconst 4, 26, 0, 0, .int 4, []),
  (26, .invokevirtual 108, 29, 78, 2, .null, [5]),
  (29, .ifCond .ne 5, 32, 34, 0, .null, []),
  (32, .iconst 1, 33, 0, 0, .int 1, []),
  (33, .ireturn, 34, 0, 0, .null, []),
  (34, .aload_n 0, 35, 0, 0, .null, []),
  (35, .getfield 25, 38, 5, 7, .null, []),
  (38, .aload_n 0, 39, 0, 0, .null, []),
  (39, .getfield 13, 42, 5, 3, .null, []),
  (42, .iload_n 1, 43, 1, 0, .null, []),
  (43, .iaload, 44, 0, 0, .null, []),
  (44, .iaload, 45, 0, 0, .null, []),
  (45, .iconst 1, 46, 0, 0, .int 1, []),
  (46, .if_icmp .eq 5, 49, 51, 0, .null, []),
  (49, .iconst 2, 50, 0, 0, .int 2, []),
  (50, .ireturn, 51, 0, 0, .null, []),
  (51, .iload_n 3, 52, 3, 0, .null, []),
  (52, .ifCond .lt 20, 55, 72, 0, .null, []),
  (55, .iload_n 3, 56, 3, 0, .null, []),
  (56, .bipush 15, 58, 0, 0, .int 15, []),
  (58, .if_icmp .gt 14, 61, 72, 0, .null, []),
  (61, .aload_n 0, 62, 0, 0, .null, []),
  (62, .iload_n 2, 63, 2, 0, .null, []),
  (63, .iload_n 3, 64, 3, 0, .null, []),
  (64, .invokevirtual 150, 67, 98, 2, .null, [5]),
  (67, .lconst 0, 68, 0, 0, .long 0, []),
  (68, .lcmp, 69, 0, 0, .null, []),
  (69, .ifCond .eq 5, 72, 74, 0, .null, []),
  (72, .iconst 3, 73, 0, 0, .int 3, []),
  (73, .ireturn, 74, 0, 0, .null, []),
  (74, .aload_n 0, 75, 0, 0, .null, []),
  (75, .dup, 76, 0, 0, .null, []),
  (76, .getfield 154, 79, 5, 17, .null, []),
  (79, .lconst 1, 80, 0, 0, .long 1, []),
  (80, .ladd, 81, 0, 0, .null, []),
  (81, .putfield 154, 84, 5, 17, .long 0, []),
  (84, .aload_n 0, 85, 0, 0, .null, []),
  (85, .getfield 34, 88, 5, 10, .null, []),
  (88, .iconst 0, 89, 0, 0, .int 0, []),
  (89, .aload_n 0, 90, 0, 0, .null, []),
  (90, .getfield 9, 93, 5, 2, .null, []),
  (93, .iload_n 1, 94, 1, 0, .null, []),
  (94, .iaload, 95, 0, 0, .null, []),
  (95, .iastore, 96, 0, 0, .null, []),
  (96, .aload_n 0, 97, 0, 0, .null, []),
  (97, .getfield 34, 100, 5, 10, .null, []),
  (100, .iconst 1, 101, 0, 0, .int 1, []),
  (101, .aload_n 0, 102, 0, 0, .null, []),
  (102, .getfield 16, 105, 5, 4, .null, []),
  (105, .iload_n 1, 106, 1, 0, .null, []),
  (106, .iaload, 107, 0, 0, .null, []),
  (107, .iastore, 108, 0, 0, .null, []),
  (108, .aload_n 0, 109, 0, 0, .null, []),
  (109, .getfield 34, 112, 5, 10, .null, []),
  (112, .iconst 2, 113, 0, 0, .int 2, []),
  (113, .aload_n 0, 114, 0, 0, .null, []),
  (114, .getfield 19, 117, 5, 5, .null, []),
  (117, .iload_n 1, 118, 1, 0, .null, []),
  (118, .iaload, 119, 0, 0, .null, []),
  (119, .iastore, 120, 0, 0, .null, []),
  (120, .aload_n 0, 121, 0, 0, .null, []),
  (121, .getfield 34, 124, 5, 10, .null, []),
  (124, .iconst 3, 125, 0, 0, .int 3, []),
  (125, .aload_n 0, 126, 0, 0, .null, []),
  (126, .getfield 22, 129, 5, 6, .null, []),
  (129, .aload_n 0, 130, 0, 0, .null, []),
  (130, .getfield 13, 133, 5, 3, .null, []),
  (133, .iload_n 1, 134, 1, 0, .null, []),
  (134, .iaload, 135, 0, 0, .null, []),
  (135, .iaload, 136, 0, 0, .null, []),
  (136, .iastore, 137, 0, 0, .null, []),
  (137, .aload_n 0, 138, 0, 0, .null, []),
  (138, .getfield 34, 141, 5, 10, .null, []),
  (141, .iconst 4, 142, 0, 0, .int 4, []),
  (142, .aload_n 0, 143, 0, 0, .null, []),
  (143, .getfield 154, 146, 5, 17, .null, []),
  (146, .bipush 32, 148, 0, 0, .int 32, []),
  (148, .lshr, 149, 0, 0, .null, []),
  (149, .l2i, 150, 0, 0, .null, []),
  (150, .iastore, 151, 0, 0, .null, []),
  (151, .aload_n 0, 152, 0, 0, .null, []),
  (152, .getfield 34, 155, 5, 10, .null, []),
  (155, .iconst 5, 156, 0, 0, .int 5, []),
  (156, .aload_n 0, 157, 0, 0, .null, []),
  (157, .getfield 154, 160, 5, 17, .null, []),
  (160, .l2i, 161, 0, 0, .null, []),
  (161, .iastore, 162, 0, 0, .null, []),
  (162, .aload_n 0, 163, 0, 0, .null, []),
  (163, .getfield 34, 166, 5, 10, .null, []),
  (166, .bipush 6, 168, 0, 0, .int 6, []),
  (168, .iconst 0, 169, 0, 0, .int 0, []),
  (169, .iastore, 170, 0, 0, .null, []),
  (170, .aload_n 0, 171, 0, 0, .null, []),
  (171, .getfield 34, 174, 5, 10, .null, []),
  (174, .bipush 7, 176, 0, 0, .int 7, []),
  (176, .iconst 0, 177, 0, 0, .int 0, []),
  (177, .iastore, 178, 0, 0, .null, []),
  (178, .aload_n 0, 179, 0, 0, .null, []),
  (179, .aload_n 0, 180, 0, 0, .null, []),
  (180, .getfield 28, 183, 5, 8, .null, []),
  (183, .bipush 32, 185, 0, 0, .int 32, []),
  (185, .iload_n 1, 186, 1, 0, .null, []),
  (186, .imul, 187, 0, 0, .null, []),
  (187, .aload_n 0, 188, 0, 0, .null, []),
  (188, .getfield 34, 191, 5, 10, .null, []),
  (191, .bipush 8, 193, 0, 0, .int 8, []),
  (193, .invokevirtual 158, 196, 77, 4, .null, [5]),
  (196, .aload_n 0, 197, 0, 0, .null, []),
  (197, .invokevirtual 162, 200, 74, 0, .null, [5]),
  (200, .iconst 0, 201, 0, 0, .int 0, []),
  (201, .istore 4, 203, 4, 0, .null, []),
  (203, .iload 4, 205, 4, 0, .null, []),
  (205, .bipush 8, 207, 0, 0, .int 8, []),
  (207, .if_icmp .ge 26, 210, 233, 0, .null, []),
  (210, .aload_n 0, 211, 0, 0, .null, []),
  (211, .getfield 34, 214, 5, 10, .null, []),
  (214, .bipush 40, 216, 0, 0, .int 40, []),
  (216, .iload 4, 218, 4, 0, .null, []),
  (218, .iadd, 219, 0, 0, .null, []),
  (219, .aload_n 0, 220, 0, 0, .null, []),
  (220, .getfield 46, 223, 5, 19, .null, []),
  (223, .iload 4, 225, 4, 0, .null, []),
  (225, .iaload, 226, 0, 0, .null, []),
  (226, .iastore, 227, 0, 0, .null, []),
  (227, .iinc 4 1, 230, 4, 0, .int (1), []),
  (230, .goto (-27), 233, 203, 0, .null, []),
  (233, .aload_n 0, 234, 0, 0, .null, []),
  (234, .iload_n 2, 235, 2, 0, .null, []),
  (235, .iload_n 3, 236, 3, 0, .null, []),
  (236, .aload_n 0, 237, 0, 0, .null, []),
  (237, .getfield 154, 240, 5, 17, .null, []),
  (240, .invokevirtual 165, 243, 99, 3, .null, [5]),
  (243, .aload_n 0, 244, 0, 0, .null, []),
  (244, .iload_n 1, 245, 1, 0, .null, []),
  (245, .iconst 0, 246, 0, 0, .int 0, []),
  (246, .invokevirtual 112, 249, 80, 2, .null, [5]),
  (249, .iconst 0, 250, 0, 0, .int 0, []),
  (250, .ireturn, 251, 0, 0, .null, [])])
def t_X5_reload : e_M := ((RX5, yX5_reload, cX5_reload, 8, (some FieldType.int)), [(0, .aload_n 0, 1, 0, 0, .null, []),
  (1, .iconst 0, 2, 0, 0, .int 0, []),
  (2, .putfield 78, 5, 5, 0, .int 0, []),
  (5, .aload_n 0, 6, 0, 0, .null, []),
  (6, .iload_n 1, 7, 1, 0, .null, []),
  (7, .iconst 0, 8, 0, 0, .int 0, []),
  (8, .invokevirtual 108, 11, 78, 2, .null, [5]),
  (11, .ifCond .eq 21, 14, 32, 0, .null, []),
  (14, .aload_n 0, 15, 0, 0, .null, []),
  (15, .iload_n 2, 16, 2, 0, .null, []),
  (16, .iconst 1, 17, 0, 0, .int 1, []),
  (17, .invokevirtual 108, 20, 78, 2, .null, [5]),
  (20, .ifCond .eq 12, 23, 32, 0, .null, []),
  (23, .aload_n 0, 24, 0, 0, .null, []),
  (24, .iload_n 3, 25, 3, 0, .null, []),
  (25, .iconst 4, 26, 0, 0, .int 4, []),
  (26, .invokevirtual 108, 29, 78, 2, .null, [5]),
  (29, .ifCond .ne 5, 32, 34, 0, .null, []),
  (32, .iconst 1, 33, 0, 0, .int 1, []),
  (33, .ireturn, 34, 0, 0, .null, []),
  (34, .aload_n 0, 35, 0, 0, .null, []),
  (35, .getfield 25, 38, 5, 7, .null, []),
  (38, .iload_n 2, 39, 2, 0, .null, []),
  (39, .iaload, 40, 0, 0, .null, []),
  (40, .iconst 1, 41, 0, 0, .int 1, []),
  (41, .if_icmp .eq 5, 44, 46, 0, .null, []),
  (44, .iconst 2, 45, 0, 0, .int 2, []),
  (45, .ireturn, 46, 0, 0, .null, []),
  (46, .iload 4, 48, 4, 0, .null, []),
  (48, .ifCond .lt 10, 51, 58, 0, .null, []),
  (51, .iload 4, 53, 4, 0, .null, []),
  (53, .bipush 15, 55, 0, 0, .int 15, []),
  (55, .if_icmp .le 5, 58, 60, 0, .null, []),
  (58, .iconst 3, 59, 0, 0, .int 3, []),
  (59, .ireturn, 60, 0, 0, .null, []),
  (60, .aload_n 0, 61, 0, 0, .null, []),
  (61, .invokevirtual 162, 64, 74, 0, .null, [5]),
  (64, .iconst 1, 65, 0, 0, .int 1, []),
  (65, .istore 5, 67, 5, 0, .null, []),
  (67, .iconst 0, 68, 0, 0, .int 0, []),
  (68, .istore 6, 70, 6, 0, .null, []),
  (70, .iload 6, 72, 6, 0, .null, []),
  (72, .bipush 8, 74, 0, 0, .int 8, []),
  (74, .if_icmp .ge 41, 77, 115, 0, .null, []),
  (77, .iload 5, 79, 5, 0, .null, []),
  (79, .ifCond .eq 27, 82, 106, 0, .null, []),
  (82, .aload_n 0, 83, 0, 0, .null, []),
  (83, .getfield 34, 86, 5, 10, .null, []),
  (86, .bipush 40, 88, 0, 0, .int 40, []),
  (88, .iload 6, 90, 6, 0, .null, []),
  (90, .iadd, 91, 0, 0, .null, []),
  (91, .iaload, 92, 0, 0, .null, []),
  (92, .aload_n 0, 93, 0, 0, .null, []),
  (93, .getfield 46, 96, 5, 19, .null, []),
  (96, .iload 6, 98, 6, 0, .null, []),
  (98, .iaload, 99, 0, 0, .null, []),
  (99, .if_icmp .ne 7, 102, 106, 0, .null, []),
  (102, .iconst 1, 103, 0, 0, .int 1, []),
  (103, .goto 4, 106, 107, 0, .null, []),
  (106, .iconst 0, 107, 0, 0, .int 0, []),
  (107, .istore 5, 109, 5, 0, .null, []),
  (109, .iinc 6 1, 112, 6, 0, .int (1), []),
  (112, .goto (-42), 115, 70, 0, .null, []),
  (115, .iload 5, 117, 5, 0, .null, []),
  (117, .ifCond .ne 15, 120, 132, 0, .null, []),
  (120, .aload_n 0, 121, 0, 0, .null, []),
  (121, .dup, 122, 0, 0, .null, []),
  (122, .getfield 169, 125, 5, 14, .null, []),
  (125, .iconst 1, 126, 0, 0, .int 1, []),
  (126, .iadd, 127, 0, 0, .null, []),
  (127, .putfield 169, 130, 5, 14, .int 0, []),
  (130, .iconst 4, 131, 0, 0, .int 4, []),
  (131, .ireturn, 132, 0, 0, .null, []),
  (132, .aload_n 0, 133, 0, 0, .null, []),
  (133, .getfield 34, 136, 5, 10, .null, []),
  (136, .iconst 4, 137, 0, 0, .int 4, []),
  (137, .iaload, 138, 0, 0, .null, []),
  (138, .i2l, 139, 0, 0, .null, []),
  (139, .bipush 32, 141, 0, 0, .int 32, []),
  (141, .lshl, 142, 0, 0, .null, []),
  (142, .aload_n 0, 143, 0, 0, .null, []),
  (143, .getfield 34, 146, 5, 10, .null, []),
  (146, .iconst 5, 147, 0, 0, .int 5, []),
  (147, .iaload, 148, 0, 0, .null, []),
  (148, .i2l, 149, 0, 0, .null, []),
  (149, .ldc2_w 148, 152, 0, 0, .long (4294967295), []),
  (152, .land, 153, 0, 0, .null, []),
  (153, .lor, 154, 0, 0, .null, []),
  (154, .lstore 6, 156, 6, 0, .null, []),
  (156, .aload_n 0, 157, 0, 0, .null, []),
  (157, .getfield 34, 160, 5, 10, .null, []),
  (160, .iconst 3, 161, 0, 0, .int 3, []),
  (161, .iaload, 162, 0, 0, .null, []),
  (162, .aload_n 0, 163, 0, 0, .null, []),
  (163, .getfield 22, 166, 5, 6, .null, []),
  (166, .iload_n 2, 167, 2, 0, .null, []),
  (167, .iaload, 168, 0, 0, .null, []),
  (168, .if_icmp .ne 23, 171, 191, 0, .null, []),
  (171, .lload 6, 173, 6, 0, .null, []),
  (173, .aload_n 0, 174, 0, 0, .null, []),
  (174, .iload_n 3, 175, 3, 0, .null, []),
  (175, .iload 4, 177, 4, 0, .null, []),
  (177, .invokevirtual 150, 180, 98, 2, .null, [5]),
  (180, .lcmp, 181, 0, 0, .null, []),
  (181, .ifCond .ne 10, 184, 191, 0, .null, []),
  (184, .lload 6, 186, 6, 0, .null, []),
  (186, .lconst 0, 187, 0, 0, .long 0, []),
  (187, .lcmp, 188, 0, 0, .null, []),
  (188, .ifCond .ne 15, 191, 203, 0, .null, []),
  (191, .aload_n 0, 192, 0, 0, .null, []),
  (192, .dup, 193, 0, 0, .null, []),
  (193, .getfield 172, 196, 5, 15, .null, []),
  (196, .iconst 1, 197, 0, 0, .int 1, []),
  (197, .iadd, 198, 0, 0, .null, []),
  (198, .putfield 172, 201, 5, 15, .int 0, []),
  (201, .iconst 5, 202, 0, 0, .int 5, []),
  (202, .ireturn, 203, 0, 0, .null, []),
  (203, .aload_n 0, 204, 0, 0, .null, []),
  (204, .iload_n 1, 205, 1, 0, .null, []),
  (205, .aload_n 0, 206, 0, 0, .null, []),
  (206, .getfield 34, 209, 5, 10, .null, []),
  (209, .iconst 0, 210, 0, 0, .int 0, []),
  (210, .iaload, 211, 0, 0, .null, []),
  (211, .iconst 2, 212, 0, 0, .int 2, []),
  (212, .if_icmp .ne 7, 215, 219, 0, .null, []),
  (215, .iconst 2, 216, 0, 0, .int 2, []),
  (216, .goto 4, 219, 220, 0, .null, []),
  (219, .iconst 3, 220, 0, 0, .int 3, []),
  (220, .invokevirtual 112, 223, 80, 2, .null, [5]),
  (223, .aload_n 0, 224, 0, 0, .null, []),
  (224, .getfield 13, 227, 5, 3, .null, []),
  (227, .iload_n 1, 228, 1, 0, .null, []),
  (228, .iload_n 2, 229, 2, 0, .null, []),
  (229, .iastore, 230, 0, 0, .null, []),
  (230, .aload_n 0, 231, 0, 0, .null, []),
  (231, .getfield 9, 234, 5, 2, .null, []),
  (234, .iload_n 1, 235, 1, 0, .null, []),
  (235, .iaload, 236, 0, 0, .null, []),
  (236, .iconst 3, 237, 0, 0, .int 3, []),
  (237, .if_icmp .ne 27, 240, 264, 0, .null, []),
  (240, .aload_n 0, 241, 0, 0, .null, []),
  (241, .getfield 16, 244, 5, 4, .null, []),
  (244, .iload_n 1, 245, 1, 0, .null, []),
  (245, .aload_n 0, 246, 0, 0, .null, []),
  (246, .getfield 34, 249, 5, 10, .null, []),
  (249, .iconst 1, 250, 0, 0, .int 1, []),
  (250, .iaload, 251, 0, 0, .null, []),
  (251, .iastore, 252, 0, 0, .null, []),
  (252, .aload_n 0, 253, 0, 0, .null, []),
  (253, .getfield 19, 256, 5, 5, .null, []),
  (256, .iload_n 1, 257, 1, 0, .null, []),
  (257, .aload_n 0, 258, 0, 0, .null, []),
  (258, .getfield 34, 261, 5, 10, .null, []),
  (261, .iconst 2, 262, 0, 0, .int 2, []),
  (262, .iaload, 263, 0, 0, .null, []),
  (263, .iastore, 264, 0, 0, .null, []),
  (264, .aload_n 0, 265, 0, 0, .null, []),
  (265, .aload_n 0, 266, 0, 0, .null, []),
  (266, .getfield 34, 269, 5, 10, .null, []),
  (269, .bipush 8, 271, 0, 0, .int 8, []),
  (271, .aload_n 0, 272, 0, 0, .null, []),
  (272, .getfield 28, 275, 5, 8, .null, []),
  (275, .bipush 32, 277, 0, 0, .int 32, []),
  (277, .iload_n 1, 278, 1, 0, .null, []),
  (278, .imul, 279, 0, 0, .null, []),
  (279, .invokevirtual 158, 282, 77, 4, .null, [5]),
  (282, .aload_n 0, 283, 0, 0, .null, []),
  (283, .iload_n 3, 284, 3, 0, .null, []),
  (284, .iload 4, 286, 4, 0, .null, []),
  (286, .lconst 0, 287, 0, 0, .long 0, []),
  (287, .invokevirtual 165, 290, 99, 3, .null, [5]),
  (290, .aload_n 0, 291, 0, 0, .null, []),
  (291, .dup, 292, 0, 0, .null, []),
  (292, .getfield 175, 295, 5, 16, .null, []),
  (295, .iconst 1, 296, 0, 0, .int 1, []),
  (296, .iadd, 297, 0, 0, .null, []),
  (297, .putfield 175, 300, 5, 16, .int 0, []),
  (300, .iconst 0, 301, 0, 0, .int 0, []),
  (301, .ireturn, 302, 0, 0, .null, [])])
def t_X5_page : e_M := ((RX5, yX5_page, cX5_page, 4, (some FieldType.int)), [(0, .aload_n 0, 1, 0, 0, .null, []),
  (1, .iconst 0, 2, 0, 0, .int 0, []),
  (2, .putfield 78, 5, 5, 0, .int 0, []),
  (5, .iload_n 1, 6, 1, 0, .null, []),
  (6, .ifCond .lt 11, 9, 17, 0, .null, []),
  (9, .iload_n 1, 10, 1, 0, .null, []),
  (10, .aload_n 0, 11, 0, 0, .null, []),
  (11, .getfield 71, 14, 5, 1, .null, []),
  (14, .if_icmp .lt 5, 17, 19, 0, .null, []),
  (17, .iconst (-1), 18, 0, 0, .int (-1), []),
  (18, .ireturn, 19, 0, 0, .null, []),
  (19, .aload_n 0, 20, 0, 0, .null, []),
  (20, .getfield 9, 23, 5, 2, .null, []),
  (23, .iload_n 1, 24, 1, 0, .null, []),
  (24, .iaload, 25, 0, 0, .null, []),
  (25, .istore_n 3, 26, 3, 0, .null, []),
  (26, .iload_n 2, 27, 2, 0, .null, []),
  (27, .tableswitch 158 0 7 #[45, 47, 54, 70, 86, 102, 118, 133], 72, 0, 0, .null, [185, 72, 74, 81, 97, 113, 129, 145, 160]),
  (72, .iload_n 3, 73, 3, 0, .null, []),
  (73, .ireturn, 74, 0, 0, .null, []),
  (74, .aload_n 0, 75, 0, 0, .null, []),
  (75, .getfield 13, 78, 5, 3, .null, []),
  (78, .iload_n 1, 79, 1, 0, .null, []),
  (79, .iaload, 80, 0, 0, .null, []),
  (80, .ireturn, 81, 0, 0, .null, []),
  (81, .iload_n 3, 82, 3, 0, .null, []),
  (82, .iconst 3, 83, 0, 0, .int 3, []),
  (83, .if_icmp .ne 12, 86, 95, 0, .null, []),
  (86, .aload_n 0, 87, 0, 0, .null, []),
  (87, .getfield 16, 90, 5, 4, .null, []),
  (90, .iload_n 1, 91, 1, 0, .null, []),
  (91, .iaload, 92, 0, 0, .null, []),
  (92, .goto 4, 95, 96, 0, .null, []),
  (95, .iconst (-1), 96, 0, 0, .int (-1), []),
  (96, .ireturn, 97, 0, 0, .null, []),
  (97, .iload_n 3, 98, 3, 0, .null, []),
  (98, .iconst 3, 99, 0, 0, .int 3, []),
  (99, .if_icmp .ne 12, 102, 111, 0, .null, []),
  (102, .aload_n 0, 103, 0, 0, .null, []),
  (103, .getfield 19, 106, 5, 5, .null, []),
  (106, .iload_n 1, 107, 1, 0, .null, []),
  (107, .iaload, 108, 0, 0, .null, []),
  (108, .goto 4, 111, 112, 0, .null, []),
  (111, .iconst 0, 112, 0, 0, .int 0, []),
  (112, .ireturn, 113, 0, 0, .null, []),
  (113, .iload_n 3, 114, 3, 0, .null, []),
  (114, .iconst 1, 115, 0, 0, .int 1, []),
  (115, .if_icmp .ne 12, 118, 127, 0, .null, []),
  (118, .aload_n 0, 119, 0, 0, .null, []),
  (119, .getfield 22, 122, 5, 6, .null, []),
  (122, .iload_n 1, 123, 1, 0, .null, []),
  (123, .iaload, 124, 0, 0, .null, []),
  (124, .goto 4, 127, 128, 0, .null, []),
  (127, .iconst 0, 128, 0, 0, .int 0, []),
  (128, .ireturn, 129, 0, 0, .null, []),
  (129, .iload_n 3, 130, 3, 0, .null, []),
  (130, .iconst 1, 131, 0, 0, .int 1, []),
  (131, .if_icmp .ne 12, 134, 143, 0, .null, []),
  (134, .aload_n 0, 135, 0, 0, .null, []),
  (135, .getfield 25, 138, 5, 7, .null, []),
  (138, .iload_n 1, 139, 1, 0, .null, []),
  (139, .iaload, 140, 0, 0, .null, []),
  (140, .goto 4, 143, 144, 0, .null, []),
  (143, .iconst (-1), 144, 0, 0, .int (-1), []),
  (144, .ireturn, 145, 0, 0, .null, []),
  (145, .iload_n 3, 146, 3, 0, .null, []),
  (146, .iconst 1, 147, 0, 0, .int 1, []),
  (147, .if_icmp .ne 11, 150, 158, 0, .null, []),
  (150, .aload_n 0, 151, 0, 0, .null, []),
  (151, .iload_n 1, 152, 1, 0, .null, []),
  (152, .invokevirtual 125, 155, 79, 1, .null, [5]),
  (155, .goto 4, 158, 159, 0, .null, []),
  (158, .iconst 0, 159, 0, 0, .int 0, []),
  (159, .ireturn, 160, 0, 0, .null, []),
  (160, .iload_n 3, 161, 3, 0, .null, []),
  (161, .iconst 2, 162, 0, 0, .int 2, []),
  (162, .if_icmp .ne 21, 165, 183, 0, .null, []),
  (165, .aload_n 0, 166, 0, 0, .null, []),
  (166, .getfield 28, 169, 5, 8, .null, []),
  (169, .bipush 32, 171, 0, 0, .int 32, []),
  (171, .iload_n 1, 172, 1, 0, .null, []),
  (172, .imul, 173, 0, 0, .null, []),
  (173, .iconst 1, 174, 0, 0, .int 1, []),
  (174, .iadd, 175, 0, 0, .null, []),
  (175, .iaload, 176, 0, 0, .null, []),
  (176, .ifCond .eq 7, 179, 183, 0, .null, []),
  (179, .iconst 1, 180, 0, 0, .int 1, []),
  (180, .goto 4, 183, 184, 0, .null, []),
  (183, .iconst 0, 184, 0, 0, .int 0, []),
  (184, .ireturn, 185, 0, 0, .null, []),
  (185, .iconst (-1), 186, 0, 0, .int (-1), []),
  (186, .ireturn, 187, 0, 0, .null, [])])
def t_X5_measure : e_M := ((RX5, yX5_measure, cX5_measure, 3, (some FieldType.int)), [(0, .aload_n 0, 1, 0, 0, .null, []),
  (1, .iconst 0, 2, 0, 0, .int 0, []),
  (2, .putfield 78, 5, 5, 0, .int 0, []),
  (5, .aload_n 0, 6, 0, 0, .null, []),
  (6, .iload_n 1, 7, 1, 0, .null, []),
  (7, .iconst 1, 8, 0, 0, .int 1, []),
  (8, .invokevirtual 108, 11, 78, 2, .null, [5]),
  (11, .ifCond .eq 13, 14, 24, 0, .null, []),
  (14, .iload_n 2, 15, 2, 0, .null, []),
  (15, .ifCond .lt 9, 18, 24, 0, .null, []),
  (18, .iload_n 2, 19, 2, 0, .null, []),
  (19, .bipush 7, 21, 0, 0, .int 7, []),
  (21, .if_icmp .le 7, 24, 28, 0, .null, []),
  (24, .iconst 0, 25, 0, 0, .int 0, []),
  (25, .goto 14, 28, 39, 0, .null, []),
  (28, .aload_n 0, 29, 0, 0, .null, []),
  (29, .getfield 31, 32, 5, 9, .null, []),
  (32, .bipush 8, 34, 0, 0, .int 8, []),
  (34, .iload_n 1, 35, 1, 0, .null, []),
  (35, .imul, 36, 0, 0, .null, []),
  (36, .iload_n 2, 37, 2, 0, .null, []),
  (37, .iadd, 38, 0, 0, .null, []),
  (38, .iaload, 39, 0, 0, .null, []),
  (39, .ireturn, 40, 0, 0, .null, [])])
def t_X5_slot : e_M := ((RX5, yX5_slot, cX5_slot, 3, (some FieldType.long)), [(0, .aload_n 0, 1, 0, 0, .null, []),
  (1, .iconst 0, 2, 0, 0, .int 0, []),
  (2, .putfield 78, 5, 5, 0, .int 0, []),
  (5, .aload_n 0, 6, 0, 0, .null, []),
  (6, .iload_n 1, 7, 1, 0, .null, []),
  (7, .iconst 4, 8, 0, 0, .int 4, []),
  (8, .invokevirtual 108, 11, 78, 2, .null, [5]),
  (11, .ifCond .eq 13, 14, 24, 0, .null, []),
  (14, .iload_n 2, 15, 2, 0, .null, []),
  (15, .ifCond .lt 9, 18, 24, 0, .null, []),
  (18, .iload_n 2, 19, 2, 0, .null, []),
  (19, .bipush 15, 21, 0, 0, .int 15, []),
  (21, .if_icmp .le 7, 24, 28, 0, .null, []),
  (24, .lconst 0, 25, 0, 0, .long 0, []),
  (25, .goto 9, 28, 34, 0, .null, []),
  (28, .aload_n 0, 29, 0, 0, .null, []),
  (29, .iload_n 1, 30, 1, 0, .null, []),
  (30, .iload_n 2, 31, 2, 0, .null, []),
  (31, .invokevirtual 150, 34, 98, 2, .null, [5]),
  (34, .lreturn, 35, 0, 0, .null, [])])
def t_X5_count : e_M := ((RX5, yX5_count, cX5_count, 4, (some FieldType.int)), [(0, .aload_n 0, 1, 0, 0, .null, []),
  (1, .iconst 0, 2, 0, 0, .int 0, []),
  (2, .putfield 78, 5, 5, 0, .int 0, []),
  (5, .iload_n 1, 6, 1, 0, .null, []),
  (6, .ifCond .ne 8, 9, 14, 0, .null, []),
  (9, .aload_n 0, 10, 0, 0, .null, []),
  (10, .getfield 71, 13, 5, 1, .null, []),
  (13, .ireturn, 14, 0, 0, .null, []),
  (14, .iload_n 1, 15, 1, 0, .null, []),
  (15, .ifCond .le 49, 18, 64, 0, .null, []),
  (18, .iload_n 1, 19, 1, 0, .null, []),
  (19, .bipush 6, 21, 0, 0, .int 6, []),
  (21, .if_icmp .ge 43, 24, 64, 0, .null, []),
  (24, .iconst 0, 25, 0, 0, .int 0, []),
  (25, .istore_n 2, 26, 2, 0, .null, []),
  (26, .iconst 0, 27, 0, 0, .int 0, []),
  (27, .istore_n 3, 28, 3, 0, .null, []),
  (28, .iload_n 3, 29, 3, 0, .null, []),
  (29, .aload_n 0, 30, 0, 0, .null, []),
  (30, .getfield 71, 33, 5, 1, .null, []),
  (33, .if_icmp .ge 29, 36, 62, 0, .null, []),
  (36, .iload_n 2, 37, 2, 0, .null, []),
  (37, .aload_n 0, 38, 0, 0, .null, []),
  (38, .getfield 9, 41, 5, 2, .null, []),
  (41, .iload_n 3, 42, 3, 0, .null, []),
  (42, .iaload, 43, 0, 0, .null, []),
  (43, .iload_n 1, 44, 1, 0, .null, []),
  (44, .iconst 1, 45, 0, 0, .int 1, []),
  (45, .isub, 46, 0, 0, .null, []),
  (46, .if_icmp .ne 7, 49, 53, 0, .null, []),
  (49, .iconst 1, 50, 0, 0, .int 1, []),
  (50, .goto 4, 53, 54, 0, .null, []),
  (53, .iconst 0, 54, 0, 0, .int 0, []),
  (54, .iadd, 55, 0, 0, .null, []),
  (55, .istore_n 2, 56, 2, 0, .null, []),
  (56, .iinc 3 1, 59, 3, 0, .int (1), []),
  (59, .goto (-31), 62, 28, 0, .null, []),
  (62, .iload_n 2, 63, 2, 0, .null, []),
  (63, .ireturn, 64, 0, 0, .null, []),
  (64, .iload_n 1, 65, 1, 0, .null, []),
  (65, .bipush 6, 67, 0, 0, .int 6, []),
  (67, .if_icmp .ne 11, 70, 78, 0, .null, []),
  (70, .aload_n 0, 71, 0, 0, .null, []),
  (71, .getfield 154, 74, 5, 17, .null, []),
  (74, .l2i, 75, 0, 0, .null, []),
  (75, .goto 56, 78, 131, 0, .null, []),
  (78, .iload_n 1, 79, 1, 0, .null, []),
  (79, .bipush 7, 81, 0, 0, .int 7, []),
  (81, .if_icmp .ne 10, 84, 91, 0, .null, []),
  (84, .aload_n 0, 85, 0, 0, .null, []),
  (85, .getfield 175, 88, 5, 16, .null, []),
  (88, .goto 43, 91, 131, 0, .null, []),
  (91, .iload_n 1, 92, 1, 0, .null, []),
  (92, .bipush 8, 94, 0, 0, .int 8, []),
  (94, .if_icmp .ne 10, 97, 104, 0, .null, []),
  (97, .aload_n 0, 98, 0, 0, .null, []),
  (98, .getfield 169, 101, 5, 14, .null, []),
  (101, .goto 30, 104, 131, 0, .null, []),
  (104, .iload_n 1, 105, 1, 0, .null, []),
  (105, .bipush 9, 107, 0, 0, .int 9, []),
  (107, .if_icmp .ne 10, 110, 117, 0, .null, []),
  (110, .aload_n 0, 111, 0, 0, .null, []),
  (111, .getfield 172, 114, 5, 15, .null, []),
  (114, .goto 17, 117, 131, 0, .null, []),
  (117, .iload_n 1, 118, 1, 0, .null, []),
  (118, .bipush 10, 120, 0, 0, .int 10, []),
  (120, .if_icmp .ne 10, 123, 130, 0, .null, []),
  (123, .aload_n 0, 124, 0, 0, .null, []),
  (124, .getfield 116, 127, 5, 13, .null, []),
  (127, .goto 4, 130, 131, 0, .null, []),
  (130, .iconst (-1), 131, 0, 0, .int (-1), []),
  (131, .ireturn, 132, 0, 0, .null, [])])
def t_L_cell : e_M := ((RL, yL_cell, cL_cell, 2, (some FieldType.int)), [(0, .iload_n 1, 1, 1, 0, .null, []),
  (1, .aload_n 0, 2, 0, 0, .null, []),
  (2, .arraylength, 3, 0, 0, .null, []),
  (3, .if_icmp .ge 9, 6, 12, 0, .null, []),
  (6, .aload_n 0, 7, 0, 0, .null, []),
  (7, .iload_n 1, 8, 1, 0, .null, []),
  (8, .iaload, 9, 0, 0, .null, []),
  (9, .goto 4, 12, 13, 0, .null, []),
  (12, .iconst 0, 13, 0, 0, .int 0, []),
  (13, .ireturn, 14, 0, 0, .null, [])])
def t_L_law : e_M := ((RL, yL_law, cL_law, 7, some .boolean), [(0, .new 8, 3, 4, 11, .null, [2, 2, 2, 2, 2, 2, 1, 0, 0, 0, 0]),
  (3, .dup, 4, 0, 0, .null, []),
  (4, .aload_n 0, 5, 0, 0, .null, []),
  (5, .iconst 0, 6, 0, 0, .int 0, []),
  (6, .invokestatic 19, 9, 106, 2, .null, []),
  (9, .aload_n 0, 10, 0, 0, .null, []),
  (10, .iconst 1, 11, 0, 0, .int 1, []),
  (11, .invokestatic 19, 14, 106, 2, .null, []),
  (14, .i2l, 15, 0, 0, .null, []),
  (15, .invokespecial 25, 18, 34, 2, .null, []),
  (18, .astore_n 1, 19, 1, 0, .null, []),
  (19, .new 28, 22, 5, 30, .null, [0, 0, 2, 2, 2, 2, 2, 2, 2, 2, 2, 2, 2, 0, 0, 0, 0, 1, 2, 2, 2, 2, 2, 2, 2, 0, 0, 0, 0, 0]),
  (22, .dup, 23, 0, 0, .null, []),
  (23, .aload_n 0, 24, 0, 0, .null, []),
  (24, .iconst 0, 25, 0, 0, .int 0, []),
  (25, .invokestatic 19, 28, 106, 2, .null, []),
  (28, .aload_n 0, 29, 0, 0, .null, []),
  (29, .iconst 1, 30, 0, 0, .int 1, []),
  (30, .invokestatic 19, 33, 106, 2, .null, []),
  (33, .i2l, 34, 0, 0, .null, []),
  (34, .invokespecial 30, 37, 69, 2, .null, []),
  (37, .astore_n 2, 38, 2, 0, .null, []),
  (38, .iconst 1, 39, 0, 0, .int 1, []),
  (39, .newarray .long, 41, 0, 0, .null, []),
  (41, .astore_n 3, 42, 3, 0, .null, []),
  (42, .iconst 2, 43, 0, 0, .int 2, []),
  (43, .istore 4, 45, 4, 0, .null, []),
  (45, .iload 4, 47, 4, 0, .null, []),
  (47, .aload_n 0, 48, 0, 0, .null, []),
  (48, .arraylength, 49, 0, 0, .null, []),
  (49, .iconst 5, 50, 0, 0, .int 5, []),
  (50, .isub, 51, 0, 0, .null, []),
  (51, .if_icmp .gt 812, 54, 863, 0, .null, []),
  (54, .aload_n 0, 55, 0, 0, .null, []),
  (55, .iload 4, 57, 4, 0, .null, []),
  (57, .iaload, 58, 0, 0, .null, []),
  (58, .bipush 31, 60, 0, 0, .int 31, []),
  (60, .iand, 61, 0, 0, .null, []),
  (61, .tableswitch 796 0 17 #[87, 135, 191, 216, 265, 326, 351, 376, 401, 426, 487, 524, 549, 598, 659, 696, 733, 771], 148, 0, 0, .null, [857, 148, 196, 252, 277, 326, 387, 412, 437, 462, 487, 548, 585, 610, 659, 720, 757, 794, 832]),
  (148, .aload_n 1, 149, 1, 0, .null, []),
  (149, .aload_n 0, 150, 0, 0, .null, []),
  (150, .iload 4, 152, 4, 0, .null, []),
  (152, .iconst 1, 153, 0, 0, .int 1, []),
  (153, .iadd, 154, 0, 0, .null, []),
  (154, .iaload, 155, 0, 0, .null, []),
  (155, .aload_n 0, 156, 0, 0, .null, []),
  (156, .iload 4, 158, 4, 0, .null, []),
  (158, .iconst 2, 159, 0, 0, .int 2, []),
  (159, .iadd, 160, 0, 0, .null, []),
  (160, .iaload, 161, 0, 0, .null, []),
  (164, .istore 5, 166, 5, 0, .null, []),
  (166, .aload_n 2, 167, 2, 0, .null, []),
  (167, .aload_n 0, 168, 0, 0, .null, []),
  (168, .iload 4, 170, 4, 0, .null, []),
  (170, .iconst 1, 171, 0, 0, .int 1, []),
  (171, .iadd, 172, 0, 0, .null, []),
  (172, .iaload, 173, 0, 0, .null, []),
  (173, .aload_n 0, 174, 0, 0, .null, []),
  (174, .iload 4, 176, 4, 0, .null, []),
  (176, .iconst 2, 177, 0, 0, .int 2, []),
  (177, .iadd, 178, 0, 0, .null, []),
  (178, .iaload, 179, 0, 0, .null, []),
  (179, .invokevirtual 34, 182, 81, 2, .null, [5]),
  (182, .aload_n 2, 183, 2, 0, .null, []),
  (183, .invokevirtual 35, 186, 70, 0, .null, [5]),
  (186, .iload 5, 188, 5, 0, .null, []),
  (188, .if_icmp .eq 5, 191, 193, 0, .null, []),
  (191, .iconst 0, 192, 0, 0, .int 0, []),
  (192, .ireturn, 193, 0, 0, .null, []),
  (193, .goto 664, 196, 857, 0, .null, []),
  (196, .aload_n 1, 197, 1, 0, .null, []),
  (197, .aload_n 0, 198, 0, 0, .null, []),
  (198, .iload 4, 200, 4, 0, .null, []),
  (200, .iconst 1, 201, 0, 0, .int 1, []),
  (201, .iadd, 202, 0, 0, .null, []),
  (202, .iaload, 203, 0, 0, .null, []),
  (203, .aload_n 3, 204, 3, 0, .null, []),
  (207, .istore 5, 209, 5, 0, .null, []),
  (209, .aload_n 2, 210, 2, 0, .null, []),
  (210, .aload_n 0, 211, 0, 0, .null, []),
  (211, .iload 4, 213, 4, 0, .null, []),
  (213, .iconst 1, 214, 0, 0, .int 1, []),
  (214, .iadd, 215, 0, 0, .null, []),
  (215, .iaload, 216, 0, 0, .null, []),
  (216, .invokevirtual 42, 219, 82, 1, .null, [5]),
  (219, .istore 6, 221, 6, 0, .null, []),
  (221, .aload_n 2, 222, 2, 0, .null, []),
  (222, .invokevirtual 35, 225, 70, 0, .null, [5]),
  (225, .iload 5, 227, 5, 0, .null, []),
  (227, .if_icmp .eq 5, 230, 232, 0, .null, []),
  (230, .iconst 0, 231, 0, 0, .int 0, []),
  (231, .ireturn, 232, 0, 0, .null, []),
  (232, .iload 5, 234, 5, 0, .null, []),
  (234, .ifCond .ne 15, 237, 249, 0, .null, []),
  (237, .aload_n 3, 238, 3, 0, .null, []),
  (238, .iconst 0, 239, 0, 0, .int 0, []),
  (239, .laload, 240, 0, 0, .null, []),
  (240, .iload 6, 242, 6, 0, .null, []),
  (242, .i2l, 243, 0, 0, .null, []),
  (243, .lcmp, 244, 0, 0, .null, []),
  (244, .ifCond .eq 5, 247, 249, 0, .null, []),
  (247, .iconst 0, 248, 0, 0, .int 0, []),
  (248, .ireturn, 249, 0, 0, .null, []),
  (249, .goto 608, 252, 857, 0, .null, []),
  (252, .aload_n 1, 253, 1, 0, .null, []),
  (253, .aload_n 0, 254, 0, 0, .null, []),
  (254, .iload 4, 256, 4, 0, .null, []),
  (256, .iconst 1, 257, 0, 0, .int 1, []),
  (257, .iadd, 258, 0, 0, .null, []),
  (258, .iaload, 259, 0, 0, .null, []),
  (259, .invokevirtual 43, 262, 37, 1, .null, [4]),
  (262, .aload_n 2, 263, 2, 0, .null, []),
  (263, .aload_n 0, 264, 0, 0, .null, []),
  (264, .iload 4, 266, 4, 0, .null, []),
  (266, .iconst 1, 267, 0, 0, .int 1, []),
  (267, .iadd, 268, 0, 0, .null, []),
  (268, .iaload, 269, 0, 0, .null, []),
  (269, .invokevirtual 46, 272, 83, 1, .null, [5]),
  (272, .if_icmp .eq 585, 275, 857, 0, .null, []),
  (275, .iconst 0, 276, 0, 0, .int 0, []),
  (276, .ireturn, 277, 0, 0, .null, []),
  (277, .aload_n 1, 278, 1, 0, .null, []),
  (278, .aload_n 0, 279, 0, 0, .null, []),
  (279, .iload 4, 281, 4, 0, .null, []),
  (281, .iconst 1, 282, 0, 0, .int 1, []),
  (282, .iadd, 283, 0, 0, .null, []),
  (283, .iaload, 284, 0, 0, .null, []),
  (284, .aload_n 0, 285, 0, 0, .null, []),
  (285, .iload 4, 287, 4, 0, .null, []),
  (287, .iconst 2, 288, 0, 0, .int 2, []),
  (288, .iadd, 289, 0, 0, .null, []),
  (289, .iaload, 290, 0, 0, .null, []),
  (290, .aload_n 0, 291, 0, 0, .null, []),
  (291, .iload 4, 293, 4, 0, .null, []),
  (293, .iconst 3, 294, 0, 0, .int 3, []),
  (294, .iadd, 295, 0, 0, .null, []),
  (295, .iaload, 296, 0, 0, .null, []),
  (296, .invokevirtual 47, 299, 38, 3, .null, [4]),
  (299, .aload_n 2, 300, 2, 0, .null, []),
  (300, .aload_n 0, 301, 0, 0, .null, []),
  (301, .iload 4, 303, 4, 0, .null, []),
  (303, .iconst 1, 304, 0, 0, .int 1, []),
  (304, .iadd, 305, 0, 0, .null, []),
  (305, .iaload, 306, 0, 0, .null, []),
  (306, .aload_n 0, 307, 0, 0, .null, []),
  (307, .iload 4, 309, 4, 0, .null, []),
  (309, .iconst 2, 310, 0, 0, .int 2, []),
  (310, .iadd, 311, 0, 0, .null, []),
  (311, .iaload, 312, 0, 0, .null, []),
  (312, .aload_n 0, 313, 0, 0, .null, []),
  (313, .iload 4, 315, 4, 0, .null, []),
  (315, .iconst 3, 316, 0, 0, .int 3, []),
  (316, .iadd, 317, 0, 0, .null, []),
  (317, .iaload, 318, 0, 0, .null, []),
  (318, .invokevirtual 51, 321, 85, 3, .null, [5]),
  (321, .if_icmp .eq 536, 324, 857, 0, .null, []),
  (324, .iconst 0, 325, 0, 0, .int 0, []),
  (325, .ireturn, 326, 0, 0, .null, []),
  (326, .aload_n 1, 327, 1, 0, .null, []),
  (327, .aload_n 0, 328, 0, 0, .null, []),
  (328, .iload 4, 330, 4, 0, .null, []),
  (330, .iconst 1, 331, 0, 0, .int 1, []),
  (331, .iadd, 332, 0, 0, .null, []),
  (332, .iaload, 333, 0, 0, .null, []),
  (333, .aload_n 0, 334, 0, 0, .null, []),
  (334, .iload 4, 336, 4, 0, .null, []),
  (336, .iconst 2, 337, 0, 0, .int 2, []),
  (337, .iadd, 338, 0, 0, .null, []),
  (338, .iaload, 339, 0, 0, .null, []),
  (339, .aload_n 0, 340, 0, 0, .null, []),
  (340, .iload 4, 342, 4, 0, .null, []),
  (342, .iconst 3, 343, 0, 0, .int 3, []),
  (343, .iadd, 344, 0, 0, .null, []),
  (344, .iaload, 345, 0, 0, .null, []),
  (345, .aload_n 0, 346, 0, 0, .null, []),
  (346, .iload 4, 348, 4, 0, .null, []),
  (348, .iconst 4, 349, 0, 0, .int 4, []),
  (349, .iadd, 350, 0, 0, .null, []),
  (350, .iaload, 351, 0, 0, .null, []),
  (351, .invokevirtual 52, 354, 39, 4, .null, [4]),
  (354, .aload_n 2, 355, 2, 0, .null, []),
  (355, .aload_n 0, 356, 0, 0, .null, []),
  (356, .iload 4, 358, 4, 0, .null, []),
  (358, .iconst 1, 359, 0, 0, .int 1, []),
  (359, .iadd, 360, 0, 0, .null, []),
  (360, .iaload, 361, 0, 0, .null, []),
  (361, .aload_n 0, 362, 0, 0, .null, []),
  (362, .iload 4, 364, 4, 0, .null, []),
  (364, .iconst 2, 365, 0, 0, .int 2, []),
  (365, .iadd, 366, 0, 0, .null, []),
  (366, .iaload, 367, 0, 0, .null, []),
  (367, .aload_n 0, 368, 0, 0, .null, []),
  (368, .iload 4, 370, 4, 0, .null, []),
  (370, .iconst 3, 371, 0, 0, .int 3, []),
  (371, .iadd, 372, 0, 0, .null, []),
  (372, .iaload, 373, 0, 0, .null, []),
  (373, .aload_n 0, 374, 0, 0, .null, []),
  (374, .iload 4, 376, 4, 0, .null, []),
  (376, .iconst 4, 377, 0, 0, .int 4, []),
  (377, .iadd, 378, 0, 0, .null, []),
  (378, .iaload, 379, 0, 0, .null, []),
  (379, .invokevirtual 56, 382, 87, 4, .null, [5]),
  (382, .if_icmp .eq 475, 385, 857, 0, .null, []),
  (385, .iconst 0, 386, 0, 0, .int 0, []),
  (386, .ireturn, 387, 0, 0, .null, []),
  (387, .aload_n 1, 388, 1, 0, .null, []),
  (388, .aload_n 0, 389, 0, 0, .null, []),
  (389, .iload 4, 391, 4, 0, .null, []),
  (391, .iconst 1, 392, 0, 0, .int 1, []),
  (392, .iadd, 393, 0, 0, .null, []),
  (393, .iaload, 394, 0, 0, .null, []),
  (394, .invokevirtual 57, 397, 40, 1, .null, [4]),
  (397, .aload_n 2, 398, 2, 0, .null, []),
  (398, .aload_n 0, 399, 0, 0, .null, []),
  (399, .iload 4, 401, 4, 0, .null, []),
  (401, .iconst 1, 402, 0, 0, .int 1, []),
  (402, .iadd, 403, 0, 0, .null, []),
  (403, .iaload, 404, 0, 0, .null, []),
  (404, .invokevirtual 60, 407, 88, 1, .null, [5]),
  (407, .if_icmp .eq 450, 410, 857, 0, .null, []),
  (410, .iconst 0, 411, 0, 0, .int 0, []),
  (411, .ireturn, 412, 0, 0, .null, []),
  (412, .aload_n 1, 413, 1, 0, .null, []),
  (413, .aload_n 0, 414, 0, 0, .null, []),
  (414, .iload 4, 416, 4, 0, .null, []),
  (416, .iconst 1, 417, 0, 0, .int 1, []),
  (417, .iadd, 418, 0, 0, .null, []),
  (418, .iaload, 419, 0, 0, .null, []),
  (419, .invokevirtual 61, 422, 41, 1, .null, [4]),
  (422, .aload_n 2, 423, 2, 0, .null, []),
  (423, .aload_n 0, 424, 0, 0, .null, []),
  (424, .iload 4, 426, 4, 0, .null, []),
  (426, .iconst 1, 427, 0, 0, .int 1, []),
  (427, .iadd, 428, 0, 0, .null, []),
  (428, .iaload, 429, 0, 0, .null, []),
  (429, .invokevirtual 64, 432, 89, 1, .null, [5]),
  (432, .if_icmp .eq 425, 435, 857, 0, .null, []),
  (435, .iconst 0, 436, 0, 0, .int 0, []),
  (436, .ireturn, 437, 0, 0, .null, []),
  (437, .aload_n 1, 438, 1, 0, .null, []),
  (438, .aload_n 0, 439, 0, 0, .null, []),
  (439, .iload 4, 441, 4, 0, .null, []),
  (441, .iconst 1, 442, 0, 0, .int 1, []),
  (442, .iadd, 443, 0, 0, .null, []),
  (443, .iaload, 444, 0, 0, .null, []),
  (444, .invokevirtual 65, 447, 42, 1, .null, [4]),
  (447, .aload_n 2, 448, 2, 0, .null, []),
  (448, .aload_n 0, 449, 0, 0, .null, []),
  (449, .iload 4, 451, 4, 0, .null, []),
  (451, .iconst 1, 452, 0, 0, .int 1, []),
  (452, .iadd, 453, 0, 0, .null, []),
  (453, .iaload, 454, 0, 0, .null, []),
  (454, .invokevirtual 68, 457, 90, 1, .null, [5]),
  (457, .if_icmp .eq 400, 460, 857, 0, .null, []),
  (460, .iconst 0, 461, 0, 0, .int 0, []),
  (461, .ireturn, 462, 0, 0, .null, []),
  (462, .aload_n 1, 463, 1, 0, .null, []),
  (463, .aload_n 0, 464, 0, 0, .null, []),
  (464, .iload 4, 466, 4, 0, .null, []),
  (466, .iconst 1, 467, 0, 0, .int 1, []),
  (467, .iadd, 468, 0, 0, .null, []),
  (468, .iaload, 469, 0, 0, .null, []),
  (469, .invokevirtual 69, 472, 43, 1, .null, [4]),
  (472, .aload_n 2, 473, 2, 0, .null, []),
  (473, .aload_n 0, 474, 0, 0, .null, []),
  (474, .iload 4, 476, 4, 0, .null, []),
  (476, .iconst 1, 477, 0, 0, .int 1, []),
  (477, .iadd, 478, 0, 0, .null, []),
  (478, .iaload, 479, 0, 0, .null, []),
  (479, .invokevirtual 72, 482, 91, 1, .null, [5]),
  (482, .if_icmp .eq 375, 485, 857, 0, .null, []),
  (485, .iconst 0, 486, 0, 0, .int 0, []),
  (486, .ireturn, 487, 0, 0, .null, []),
  (487, .aload_n 1, 488, 1, 0, .null, []),
  (488, .aload_n 0, 489, 0, 0, .null, []),
  (489, .iload 4, 491, 4, 0, .null, []),
  (491, .iconst 1, 492, 0, 0, .int 1, []),
  (492, .iadd, 493, 0, 0, .null, []),
  (493, .iaload, 494, 0, 0, .null, []),
  (494, .aload_n 0, 495, 0, 0, .null, []),
  (495, .iload 4, 497, 4, 0, .null, []),
  (497, .iconst 2, 498, 0, 0, .int 2, []),
  (498, .iadd, 499, 0, 0, .null, []),
  (499, .iaload, 500, 0, 0, .null, []),
  (500, .aload_n 0, 501, 0, 0, .null, []),
  (501, .iload 4, 503, 4, 0, .null, []),
  (503, .iconst 3, 504, 0, 0, .int 3, []),
  (504, .iadd, 505, 0, 0, .null, []),
  (505, .iaload, 506, 0, 0, .null, []),
  (506, .aload_n 0, 507, 0, 0, .null, []),
  (507, .iload 4, 509, 4, 0, .null, []),
  (509, .iconst 4, 510, 0, 0, .int 4, []),
  (510, .iadd, 511, 0, 0, .null, []),
  (511, .iaload, 512, 0, 0, .null, []),
  (512, .invokevirtual 73, 515, 44, 4, .null, [4]),
  (515, .aload_n 2, 516, 2, 0, .null, []),
  (516, .aload_n 0, 517, 0, 0, .null, []),
  (517, .iload 4, 519, 4, 0, .null, []),
  (519, .iconst 1, 520, 0, 0, .int 1, []),
  (520, .iadd, 521, 0, 0, .null, []),
  (521, .iaload, 522, 0, 0, .null, []),
  (522, .aload_n 0, 523, 0, 0, .null, []),
  (523, .iload 4, 525, 4, 0, .null, []),
  (525, .iconst 2, 526, 0, 0, .int 2, []),
  (526, .iadd, 527, 0, 0, .null, []),
  (527, .iaload, 528, 0, 0, .null, []),
  (528, .aload_n 0, 529, 0, 0, .null, []),
  (529, .iload 4, 531, 4, 0, .null, []),
  (531, .iconst 3, 532, 0, 0, .int 3, []),
  (532, .iadd, 533, 0, 0, .null, []),
  (533, .iaload, 534, 0, 0, .null, []),
  (534, .aload_n 0, 535, 0, 0, .null, []),
  (535, .iload 4, 537, 4, 0, .null, []),
  (537, .iconst 4, 538, 0, 0, .int 4, []),
  (538, .iadd, 539, 0, 0, .null, []),
  (539, .iaload, 540, 0, 0, .null, []),
  (540, .invokevirtual 76, 543, 92, 4, .null, [5]),
  (543, .if_icmp .eq 314, 546, 857, 0, .null, []),
  (546, .iconst 0, 547, 0, 0, .int 0, []),
  (547, .ireturn, 548, 0, 0, .null, []),
  (548, .aload_n 1, 549, 1, 0, .null, []),
  (549, .aload_n 0, 550, 0, 0, .null, []),
  (550, .iload 4, 552, 4, 0, .null, []),
  (552, .iconst 1, 553, 0, 0, .int 1, []),
  (553, .iadd, 554, 0, 0, .null, []),
  (554, .iaload, 555, 0, 0, .null, []),
  (555, .aload_n 0, 556, 0, 0, .null, []),
  (556, .iload 4, 558, 4, 0, .null, []),
  (558, .iconst 2, 559, 0, 0, .int 2, []),
  (559, .iadd, 560, 0, 0, .null, []),
  (560, .iaload, 561, 0, 0, .null, []),
  (561, .invokevirtual 77, 564, 45, 2, .null, [4]),
  (564, .aload_n 2, 565, 2, 0, .null, []),
  (565, .aload_n 0, 566, 0, 0, .null, []),
  (566, .iload 4, 568, 4, 0, .null, []),
  (568, .iconst 1, 569, 0, 0, .int 1, []),
  (569, .iadd, 570, 0, 0, .null, []),
  (570, .iaload, 571, 0, 0, .null, []),
  (571, .aload_n 0, 572, 0, 0, .null, []),
  (572, .iload 4, 574, 4, 0, .null, []),
  (574, .iconst 2, 575, 0, 0, .int 2, []),
  (575, .iadd, 576, 0, 0, .null, []),
  (576, .iaload, 577, 0, 0, .null, []),
  (577, .invokevirtual 81, 580, 93, 2, .null, [5]),
  (580, .if_icmp .eq 277, 583, 857, 0, .null, []),
  (583, .iconst 0, 584, 0, 0, .int 0, []),
  (584, .ireturn, 585, 0, 0, .null, []),
  (585, .aload_n 1, 586, 1, 0, .null, []),
  (586, .aload_n 0, 587, 0, 0, .null, []),
  (587, .iload 4, 589, 4, 0, .null, []),
  (589, .iconst 1, 590, 0, 0, .int 1, []),
  (590, .iadd, 591, 0, 0, .null, []),
  (591, .iaload, 592, 0, 0, .null, []),
  (592, .invokevirtual 82, 595, 46, 1, .null, [4]),
  (595, .aload_n 2, 596, 2, 0, .null, []),
  (596, .aload_n 0, 597, 0, 0, .null, []),
  (597, .iload 4, 599, 4, 0, .null, []),
  (599, .iconst 1, 600, 0, 0, .int 1, []),
  (600, .iadd, 601, 0, 0, .null, []),
  (601, .iaload, 602, 0, 0, .null, []),
  (602, .invokevirtual 85, 605, 97, 1, .null, [5]),
  (605, .if_icmp .eq 252, 608, 857, 0, .null, []),
  (608, .iconst 0, 609, 0, 0, .int 0, []),
  (609, .ireturn, 610, 0, 0, .null, []),
  (610, .aload_n 1, 611, 1, 0, .null, []),
  (611, .aload_n 0, 612, 0, 0, .null, []),
  (612, .iload 4, 614, 4, 0, .null, []),
  (614, .iconst 1, 615, 0, 0, .int 1, []),
  (615, .iadd, 616, 0, 0, .null, []),
  (616, .iaload, 617, 0, 0, .null, []),
  (617, .aload_n 0, 618, 0, 0, .null, []),
  (618, .iload 4, 620, 4, 0, .null, []),
  (620, .iconst 2, 621, 0, 0, .int 2, []),
  (621, .iadd, 622, 0, 0, .null, []),
  (622, .iaload, 623, 0, 0, .null, []),
  (623, .aload_n 0, 624, 0, 0, .null, []),
  (624, .iload 4, 626, 4, 0, .null, []),
  (626, .iconst 3, 627, 0, 0, .int 3, []),
  (627, .iadd, 628, 0, 0, .null, []),
  (628, .iaload, 629, 0, 0, .null, []),
  (629, .invokevirtual 86, 632, 47, 3, .null, [4]),
  (632, .aload_n 2, 633, 2, 0, .null, []),
  (633, .aload_n 0, 634, 0, 0, .null, []),
  (634, .iload 4, 636, 4, 0, .null, []),
  (636, .iconst 1, 637, 0, 0, .int 1, []),
  (637, .iadd, 638, 0, 0, .null, []),
  (638, .iaload, 639, 0, 0, .null, []),
  (639, .aload_n 0, 640, 0, 0, .null, []),
  (640, .iload 4, 642, 4, 0, .null, []),
  (642, .iconst 2, 643, 0, 0, .int 2, []),
  (643, .iadd, 644, 0, 0, .null, []),
  (644, .iaload, 645, 0, 0, .null, []),
  (645, .aload_n 0, 646, 0, 0, .null, []),
  (646, .iload 4, 648, 4, 0, .null, []),
  (648, .iconst 3, 649, 0, 0, .int 3, []),
  (649, .iadd, 650, 0, 0, .null, []),
  (650, .iaload, 651, 0, 0, .null, []),
  (651, .invokevirtual 89, 654, 100, 3, .null, [5]),
  (654, .if_icmp .eq 203, 657, 857, 0, .null, []),
  (657, .iconst 0, 658, 0, 0, .int 0, []),
  (658, .ireturn, 659, 0, 0, .null, []),
  (659, .aload_n 1, 660, 1, 0, .null, []),
  (660, .aload_n 0, 661, 0, 0, .null, []),
  (661, .iload 4, 663, 4, 0, .null, []),
  (663, .iconst 1, 664, 0, 0, .int 1, []),
  (664, .iadd, 665, 0, 0, .null, []),
  (665, .iaload, 666, 0, 0, .null, []),
  (666, .aload_n 0, 667, 0, 0, .null, []),
  (667, .iload 4, 669, 4, 0, .null, []),
  (669, .iconst 2, 670, 0, 0, .int 2, []),
  (670, .iadd, 671, 0, 0, .null, []),
  (671, .iaload, 672, 0, 0, .null, []),
  (672, .aload_n 0, 673, 0, 0, .null, []),
  (673, .iload 4, 675, 4, 0, .null, []),
  (675, .iconst 3, 676, 0, 0, .int 3, []),
  (676, .iadd, 677, 0, 0, .null, []),
  (677, .iaload, 678, 0, 0, .null, []),
  (678, .aload_n 0, 679, 0, 0, .null, []),
  (679, .iload 4, 681, 4, 0, .null, []),
  (681, .iconst 4, 682, 0, 0, .int 4, []),
  (682, .iadd, 683, 0, 0, .null, []),
  (683, .iaload, 684, 0, 0, .null, []),
  (684, .invokevirtual 90, 687, 48, 4, .null, [4]),
  (687, .aload_n 2, 688, 2, 0, .null, []),
  (688, .aload_n 0, 689, 0, 0, .null, []),
  (689, .iload 4, 691, 4, 0, .null, []),
  (691, .iconst 1, 692, 0, 0, .int 1, []),
  (692, .iadd, 693, 0, 0, .null, []),
  (693, .iaload, 694, 0, 0, .null, []),
  (694, .aload_n 0, 695, 0, 0, .null, []),
  (695, .iload 4, 697, 4, 0, .null, []),
  (697, .iconst 2, 698, 0, 0, .int 2, []),
  (698, .iadd, 699, 0, 0, .null, []),
  (699, .iaload, 700, 0, 0, .null, []),
  (700, .aload_n 0, 701, 0, 0, .null, []),
  (701, .iload 4, 703, 4, 0, .null, []),
  (703, .iconst 3, 704, 0, 0, .int 3, []),
  (704, .iadd, 705, 0, 0, .null, []),
  (705, .iaload, 706, 0, 0, .null, []),
  (706, .aload_n 0, 707, 0, 0, .null, []),
  (707, .iload 4, 709, 4, 0, .null, []),
  (709, .iconst 4, 710, 0, 0, .int 4, []),
  (710, .iadd, 711, 0, 0, .null, []),
  (711, .iaload, 712, 0, 0, .null, []),
  (712, .invokevirtual 93, 715, 101, 4, .null, [5]),
  (715, .if_icmp .eq 142, 718, 857, 0, .null, []),
  (718, .iconst 0, 719, 0, 0, .int 0, []),
  (719, .ireturn, 720, 0, 0, .null, []),
  (720, .aload_n 1, 721, 1, 0, .null, []),
  (721, .aload_n 0, 722, 0, 0, .null, []),
  (722, .iload 4, 724, 4, 0, .null, []),
  (724, .iconst 1, 725, 0, 0, .int 1, []),
  (725, .iadd, 726, 0, 0, .null, []),
  (726, .iaload, 727, 0, 0, .null, []),
  (727, .aload_n 0, 728, 0, 0, .null, []),
  (728, .iload 4, 730, 4, 0, .null, []),
  (730, .iconst 2, 731, 0, 0, .int 2, []),
  (731, .iadd, 732, 0, 0, .null, []),
  (732, .iaload, 733, 0, 0, .null, []),
  (733, .invokevirtual 94, 736, 49, 2, .null, [4]),
  (736, .aload_n 2, 737, 2, 0, .null, []),
  (737, .aload_n 0, 738, 0, 0, .null, []),
  (738, .iload 4, 740, 4, 0, .null, []),
  (740, .iconst 1, 741, 0, 0, .int 1, []),
  (741, .iadd, 742, 0, 0, .null, []),
  (742, .iaload, 743, 0, 0, .null, []),
  (743, .aload_n 0, 744, 0, 0, .null, []),
  (744, .iload 4, 746, 4, 0, .null, []),
  (746, .iconst 2, 747, 0, 0, .int 2, []),
  (747, .iadd, 748, 0, 0, .null, []),
  (748, .iaload, 749, 0, 0, .null, []),
  (749, .invokevirtual 97, 752, 102, 2, .null, [5]),
  (752, .if_icmp .eq 105, 755, 857, 0, .null, []),
  (755, .iconst 0, 756, 0, 0, .int 0, []),
  (756, .ireturn, 757, 0, 0, .null, []),
  (757, .aload_n 1, 758, 1, 0, .null, []),
  (758, .aload_n 0, 759, 0, 0, .null, []),
  (759, .iload 4, 761, 4, 0, .null, []),
  (761, .iconst 1, 762, 0, 0, .int 1, []),
  (762, .iadd, 763, 0, 0, .null, []),
  (763, .iaload, 764, 0, 0, .null, []),
  (764, .aload_n 0, 765, 0, 0, .null, []),
  (765, .iload 4, 767, 4, 0, .null, []),
  (767, .iconst 2, 768, 0, 0, .int 2, []),
  (768, .iadd, 769, 0, 0, .null, []),
  (769, .iaload, 770, 0, 0, .null, []),
  (770, .invokevirtual 98, 773, 50, 2, .null, [4]),
  (773, .aload_n 2, 774, 2, 0, .null, []),
  (774, .aload_n 0, 775, 0, 0, .null, []),
  (775, .iload 4, 777, 4, 0, .null, []),
  (777, .iconst 1, 778, 0, 0, .int 1, []),
  (778, .iadd, 779, 0, 0, .null, []),
  (779, .iaload, 780, 0, 0, .null, []),
  (780, .aload_n 0, 781, 0, 0, .null, []),
  (781, .iload 4, 783, 4, 0, .null, []),
  (783, .iconst 2, 784, 0, 0, .int 2, []),
  (784, .iadd, 785, 0, 0, .null, []),
  (785, .iaload, 786, 0, 0, .null, []),
  (786, .invokevirtual 101, 789, 103, 2, .null, [5]),
  (789, .if_icmp .eq 68, 792, 857, 0, .null, []),
  (792, .iconst 0, 793, 0, 0, .int 0, []),
  (793, .ireturn, 794, 0, 0, .null, []),
  (794, .aload_n 1, 795, 1, 0, .null, []),
  (795, .aload_n 0, 796, 0, 0, .null, []),
  (796, .iload 4, 798, 4, 0, .null, []),
  (798, .iconst 1, 799, 0, 0, .int 1, []),
  (799, .iadd, 800, 0, 0, .null, []),
  (800, .iaload, 801, 0, 0, .null, []),
  (801, .aload_n 0, 802, 0, 0, .null, []),
  (802, .iload 4, 804, 4, 0, .null, []),
  (804, .iconst 2, 805, 0, 0, .int 2, []),
  (805, .iadd, 806, 0, 0, .null, []),
  (806, .iaload, 807, 0, 0, .null, []),
  (807, .invokevirtual 102, 810, 51, 2, .null, [4]),
  (810, .aload_n 2, 811, 2, 0, .null, []),
  (811, .aload_n 0, 812, 0, 0, .null, []),
  (812, .iload 4, 814, 4, 0, .null, []),
  (814, .iconst 1, 815, 0, 0, .int 1, []),
  (815, .iadd, 816, 0, 0, .null, []),
  (816, .iaload, 817, 0, 0, .null, []),
  (817, .aload_n 0, 818, 0, 0, .null, []),
  (818, .iload 4, 820, 4, 0, .null, []),
  (820, .iconst 2, 821, 0, 0, .int 2, []),
  (821, .iadd, 822, 0, 0, .null, []),
  (822, .iaload, 823, 0, 0, .null, []),
  (823, .invokevirtual 106, 826, 104, 2, .null, [5]),
  (826, .lcmp, 827, 0, 0, .null, []),
  (827, .ifCond .eq 30, 830, 857, 0, .null, []),
  (830, .iconst 0, 831, 0, 0, .int 0, []),
  (831, .ireturn, 832, 0, 0, .null, []),
  (832, .aload_n 1, 833, 1, 0, .null, []),
  (833, .aload_n 0, 834, 0, 0, .null, []),
  (834, .iload 4, 836, 4, 0, .null, []),
  (836, .iconst 1, 837, 0, 0, .int 1, []),
  (837, .iadd, 838, 0, 0, .null, []),
  (838, .iaload, 839, 0, 0, .null, []),
  (839, .invokevirtual 107, 842, 52, 1, .null, [4]),
  (842, .aload_n 2, 843, 2, 0, .null, []),
  (843, .aload_n 0, 844, 0, 0, .null, []),
  (844, .iload 4, 846, 4, 0, .null, []),
  (846, .iconst 1, 847, 0, 0, .int 1, []),
  (847, .iadd, 848, 0, 0, .null, []),
  (848, .iaload, 849, 0, 0, .null, []),
  (849, .invokevirtual 110, 852, 105, 1, .null, [5]),
  (852, .if_icmp .eq 5, 855, 857, 0, .null, []),
  (855, .iconst 0, 856, 0, 0, .int 0, []),
  (856, .ireturn, 857, 0, 0, .null, []),
  (857, .iinc 4 5, 860, 4, 0, .int (5), []),
  (860, .goto (-815), 863, 45, 0, .null, []),
  (863, .iconst 1, 864, 0, 0, .int 1, []),
  (864, .ireturn, 865, 0, 0, .null, [])])
def ev_tl : List e_M := [t_X0_init, t_X0_begin, t_X0_add, t_X0_addAll, t_X0_finish, t_X0_padMessage, t_X0_fillSchedule, t_X0_compress, t_X0_turnRight, t_X1_init, t_X1_own, t_X1_clear, t_X1_isSaved, t_X1_isDataOf, t_X1_numberIn, t_X1_setNumber, t_X1_join, t_X2_init, t_X2_mapSpace, t_X2_go, t_X2_forget, t_X2_step, t_X2_register, t_X2_fetch, t_X2_store, t_X2_reach, t_X3_init, t_X3_derive, t_X3_sign, t_X3_beginWithMark, t_X3_cover, t_X3_makeBlock, t_X3_mixQuarter, t_X3_turnLeft, t_X4_init, t_X4_poke, t_X4_buffer, t_X4_create, t_X4_thread, t_X4_data, t_X4_versions, t_X4_finalise, t_X4_stop, t_X4_remove, t_X4_enter, t_X4_resume, t_X4_told, t_X4_evict, t_X4_reload, t_X4_page, t_X4_measure, t_X4_slot, t_X4_count, t_X4_isWithin, t_X4_isOfType, t_X4_stateOf, t_X4_pagesOfType, t_X4_ownedBy, t_X4_hasAddress, t_X4_whyNotAdded, t_X4_extendMeasure, t_X4_isRemovable, t_X4_whyNotRun, t_X4_runThread, t_X4_whyNotEvicted, t_X4_whyNotReloaded, t_X4_isTagged, t_X4_writeBlob, t_X4_readBlob, t_X5_init, t_X5_thrown, t_X5_right, t_X5_digest, t_X5_block, t_X5_tag, t_X5_quarter, t_X5_stream, t_X5_seal, t_X5_isOf, t_X5_owned, t_X5_becomes, t_X5_poke, t_X5_buffer, t_X5_create, t_X5_measured, t_X5_thread, t_X5_at, t_X5_data, t_X5_versions, t_X5_finalise, t_X5_stop, t_X5_remove, t_X5_enter, t_X5_resume, t_X5_run, t_X5_reach, t_X5_step, t_X5_told, t_X5_inSlot, t_X5_setSlot, t_X5_evict, t_X5_reload, t_X5_page, t_X5_measure, t_X5_slot, t_X5_count, t_L_cell, t_L_law]
def tbs (n : Nat) : Option e_M := ev_tl[n]?
end
section
theorem gm0 {w : Cond} (i : Nat) (h : (k2_sels lw_privs)[i]? = some w) (g : goodWord w = true) : w ∈ ev_GW := List.mem_filter.mpr ⟨List.mem_append_left _ (List.mem_of_getElem? h), g⟩
theorem gm1 {w : Cond} (i : Nat) (h : tables_1_1[i]? = some w) (g : goodWord w = true) : w ∈ ev_GW := List.mem_filter.mpr ⟨List.mem_append_right _ (List.mem_append_left _ (List.mem_of_getElem? h)), g⟩
theorem gm2 {w : Cond} (i : Nat) (h : tables_1_2[i]? = some w) (g : goodWord w = true) : w ∈ ev_GW := List.mem_filter.mpr ⟨List.mem_append_right _ (List.mem_append_right _ (List.mem_append_left _ (List.mem_of_getElem? h))), g⟩
theorem gm3 {w : Cond} (i : Nat) (h : tables_1_3[i]? = some w) (g : goodWord w = true) : w ∈ ev_GW := List.mem_filter.mpr ⟨List.mem_append_right _ (List.mem_append_right _ (List.mem_append_right _ (List.mem_append_left _ (List.mem_of_getElem? h)))), g⟩
theorem gm4 {w : Cond} (i : Nat) (h : tables_1_4[i]? = some w) (g : goodWord w = true) : w ∈ ev_GW := List.mem_filter.mpr ⟨List.mem_append_right _ (List.mem_append_right _ (List.mem_append_right _ (List.mem_append_right _ (List.mem_of_getElem? h)))), g⟩
theorem inX0 : ∀ w ∈ u_ws RX0 TX0 4, w ∈ ev_GW := List.forall_mem_cons.mpr ⟨gm1 30 rfl rfl, List.forall_mem_cons.mpr ⟨gm1 32 rfl rfl, List.forall_mem_cons.mpr ⟨gm1 34 rfl rfl, List.forall_mem_cons.mpr ⟨gm1 36 rfl rfl, fun _ h => absurd h List.not_mem_nil⟩⟩⟩⟩
theorem inX1 : ∀ w ∈ u_ws RX1 TX1 8, w ∈ ev_GW := List.forall_mem_cons.mpr ⟨gm1 93 rfl rfl, List.forall_mem_cons.mpr ⟨gm1 95 rfl rfl, List.forall_mem_cons.mpr ⟨gm1 97 rfl rfl, List.forall_mem_cons.mpr ⟨gm1 99 rfl rfl, List.forall_mem_cons.mpr ⟨gm1 101 rfl rfl, List.forall_mem_cons.mpr ⟨gm1 103 rfl rfl, List.forall_mem_cons.mpr ⟨gm1 105 rfl rfl, List.forall_mem_cons.mpr ⟨gm1 107 rfl rfl, fun _ h => absurd h List.not_mem_nil⟩⟩⟩⟩⟩⟩⟩⟩
theorem inX2 : ∀ w ∈ u_ws RX2 TX2 5, w ∈ ev_GW := List.forall_mem_cons.mpr ⟨gm1 57 rfl rfl, List.forall_mem_cons.mpr ⟨gm1 59 rfl rfl, List.forall_mem_cons.mpr ⟨gm1 61 rfl rfl, List.forall_mem_cons.mpr ⟨gm1 63 rfl rfl, List.forall_mem_cons.mpr ⟨gm1 65 rfl rfl, fun _ h => absurd h List.not_mem_nil⟩⟩⟩⟩⟩
theorem inX3 : ∀ w ∈ u_ws RX3 TX3 6, w ∈ ev_GW := List.forall_mem_cons.mpr ⟨gm1 163 rfl rfl, List.forall_mem_cons.mpr ⟨gm1 165 rfl rfl, List.forall_mem_cons.mpr ⟨gm1 167 rfl rfl, List.forall_mem_cons.mpr ⟨gm1 169 rfl rfl, List.forall_mem_cons.mpr ⟨gm1 171 rfl rfl, List.forall_mem_cons.mpr ⟨gm1 173 rfl rfl, fun _ h => absurd h List.not_mem_nil⟩⟩⟩⟩⟩⟩
theorem inX4 : ∀ w ∈ u_ws RX4 TX4 11, w ∈ ev_GW := List.forall_mem_cons.mpr ⟨gm1 187 rfl rfl, List.forall_mem_cons.mpr ⟨gm1 189 rfl rfl, List.forall_mem_cons.mpr ⟨gm1 191 rfl rfl, List.forall_mem_cons.mpr ⟨gm1 193 rfl rfl, List.forall_mem_cons.mpr ⟨gm1 195 rfl rfl, List.forall_mem_cons.mpr ⟨gm1 197 rfl rfl, List.forall_mem_cons.mpr ⟨gm1 199 rfl rfl, List.forall_mem_cons.mpr ⟨gm1 201 rfl rfl, List.forall_mem_cons.mpr ⟨gm1 203 rfl rfl, List.forall_mem_cons.mpr ⟨gm1 205 rfl rfl, List.forall_mem_cons.mpr ⟨gm1 207 rfl rfl, fun _ h => absurd h List.not_mem_nil⟩⟩⟩⟩⟩⟩⟩⟩⟩⟩⟩
theorem inX5 : ∀ w ∈ u_ws RX5 TX5 30, w ∈ ev_GW := List.forall_mem_cons.mpr ⟨gm3 94 rfl rfl, List.forall_mem_cons.mpr ⟨gm3 96 rfl rfl, List.forall_mem_cons.mpr ⟨gm3 98 rfl rfl, List.forall_mem_cons.mpr ⟨gm3 100 rfl rfl, List.forall_mem_cons.mpr ⟨gm3 102 rfl rfl, List.forall_mem_cons.mpr ⟨gm3 104 rfl rfl, List.forall_mem_cons.mpr ⟨gm3 106 rfl rfl, List.forall_mem_cons.mpr ⟨gm3 108 rfl rfl, List.forall_mem_cons.mpr ⟨gm3 110 rfl rfl, List.forall_mem_cons.mpr ⟨gm3 112 rfl rfl, List.forall_mem_cons.mpr ⟨gm3 114 rfl rfl, List.forall_mem_cons.mpr ⟨gm3 116 rfl rfl, List.forall_mem_cons.mpr ⟨gm3 118 rfl rfl, List.forall_mem_cons.mpr ⟨gm3 120 rfl rfl, List.forall_mem_cons.mpr ⟨gm3 122 rfl rfl, List.forall_mem_cons.mpr ⟨gm3 124 rfl rfl, List.forall_mem_cons.mpr ⟨gm3 126 rfl rfl, List.forall_mem_cons.mpr ⟨gm3 128 rfl rfl, List.forall_mem_cons.mpr ⟨gm3 130 rfl rfl, List.forall_mem_cons.mpr ⟨gm3 132 rfl rfl, List.forall_mem_cons.mpr ⟨gm3 134 rfl rfl, List.forall_mem_cons.mpr ⟨gm3 136 rfl rfl, List.forall_mem_cons.mpr ⟨gm3 138 rfl rfl, List.forall_mem_cons.mpr ⟨gm3 140 rfl rfl, List.forall_mem_cons.mpr ⟨gm3 142 rfl rfl, List.forall_mem_cons.mpr ⟨gm3 144 rfl rfl, List.forall_mem_cons.mpr ⟨gm3 146 rfl rfl, List.forall_mem_cons.mpr ⟨gm3 148 rfl rfl, List.forall_mem_cons.mpr ⟨gm3 150 rfl rfl, List.forall_mem_cons.mpr ⟨gm3 152 rfl rfl, fun _ h => absurd h List.not_mem_nil⟩⟩⟩⟩⟩⟩⟩⟩⟩⟩⟩⟩⟩⟩⟩⟩⟩⟩⟩⟩⟩⟩⟩⟩⟩⟩⟩⟩⟩⟩
theorem ev_gl : ev_glob := ⟨gm1 143 rfl rfl, gm1 142 rfl rfl, gm1 6 rfl rfl, gm1 18 rfl rfl, gm1 19 rfl rfl, gm1 39 rfl rfl, gm4 54 rfl rfl⟩
theorem w_0 (nm : String) : ev_okW tbs "EnclaveMonitor$Hash" nm 1000 0 (.null) [] (.invokespecial 3) := gm1 25 rfl rfl
theorem w_1 : ev_okW tbs "EnclaveMonitor$Hash" "<init>" 0 0 (.null) [] (.putfield 11) := ⟨_, tyX0, rfl, inX0, by decide, gm1 26 rfl rfl, tyX0_ok, nmX0, rfl, Or.inr ⟨rfl, rfl, rfl⟩⟩
theorem w_2 : ev_okW tbs "EnclaveMonitor$Hash" "<init>" 0 1 (.null) [] (.putfield 15) := ⟨_, tyX0, rfl, inX0, by decide, gm1 27 rfl rfl, tyX0_ok, nmX0, rfl, Or.inr ⟨rfl, rfl, rfl⟩⟩
theorem w_3 : ev_okW tbs "EnclaveMonitor$Hash" "<init>" 0 2 (.null) [] (.putfield 18) := ⟨_, tyX0, rfl, inX0, by decide, gm1 28 rfl rfl, tyX0_ok, nmX0, rfl, Or.inr ⟨rfl, rfl, rfl⟩⟩
theorem w_4 (nm : String) : ev_okW tbs "EnclaveMonitor$Hash" nm 0 3 (.int 0) [] (.putfield 21) := ⟨_, tyX0, rfl, inX0, by decide, gm1 29 rfl rfl, tyX0_ok, nmX0, rfl, Or.inl rfl⟩
theorem w_5 (nm : String) : ev_okW tbs "EnclaveMonitor$Hash" nm 0 3 (.null) [] (.getfield 21) := ⟨_, rfl, inX0, by decide, gm1 29 rfl rfl⟩
theorem w_6 (nm : String) : ev_okW tbs "EnclaveMonitor$Hash" nm 0 0 (.null) [] (.getfield 11) := ⟨_, rfl, inX0, by decide, gm1 26 rfl rfl⟩
theorem w_7 (nm : String) : ev_okW tbs "EnclaveMonitor$Hash" nm 2 1 (.null) [0] (.invokevirtual 25) := ⟨_, 0, _, rfl, rfl, rfl, rfl, ⟨Or.inl (gm2 6 rfl rfl), gm1 2 rfl rfl, gm1 129 rfl rfl, ⟨by decide +kernel, by decide +kernel, by decide +kernel⟩, by decide⟩, gm1 127 rfl rfl, gm1 128 rfl rfl⟩
theorem w_8 (nm : String) : ev_okW tbs "EnclaveMonitor$Hash" nm 5 0 (.null) [0] (.invokevirtual 29) := ⟨_, 0, _, rfl, rfl, rfl, rfl, ⟨Or.inl (gm1 134 rfl rfl), gm1 2 rfl rfl, gm1 137 rfl rfl, ⟨by decide +kernel, by decide +kernel, by decide +kernel⟩, by decide⟩, gm1 136 rfl rfl, gm0 1 rfl rfl⟩
theorem w_9 (nm : String) : ev_okW tbs "EnclaveMonitor$Hash" nm 0 0 (.null) [] (.getstatic 33) := ⟨_, rfl, gm1 139 rfl rfl⟩
theorem w_10 (nm : String) : ev_okW tbs "EnclaveMonitor$Hash" nm 0 2 (.null) [] (.getfield 18) := ⟨_, rfl, inX0, by decide, gm1 28 rfl rfl⟩
theorem w_11 (nm : String) : ev_okW tbs "EnclaveMonitor$Hash" nm 1001 0 (.null) [] (.invokestatic 36) := gm1 141 rfl rfl
theorem w_12 (nm : String) : ev_okW tbs "EnclaveMonitor$Hash" nm 6 1 (.null) [0] (.invokevirtual 42) := ⟨_, 0, _, rfl, rfl, rfl, rfl, ⟨Or.inl (gm1 144 rfl rfl), gm1 2 rfl rfl, gm1 147 rfl rfl, ⟨by decide +kernel, by decide +kernel, by decide +kernel⟩, by decide⟩, gm1 146 rfl rfl, gm0 2 rfl rfl⟩
theorem w_13 (nm : String) : ev_okW tbs "EnclaveMonitor$Hash" nm 7 0 (.null) [0] (.invokevirtual 45) := ⟨_, 0, _, rfl, rfl, rfl, rfl, ⟨Or.inl (gm1 151 rfl rfl), gm1 2 rfl rfl, gm1 154 rfl rfl, ⟨by decide +kernel, by decide +kernel, by decide +kernel⟩, by decide⟩, gm1 153 rfl rfl, gm0 3 rfl rfl⟩
theorem w_14 (nm : String) : ev_okW tbs "EnclaveMonitor$Hash" nm 0 0 (.int (-2147483648)) [] (.ldc 48) := ⟨_, rfl, gm1 138 rfl rfl⟩
theorem w_15 (nm : String) : ev_okW tbs "EnclaveMonitor$Hash" nm 0 1 (.null) [] (.getfield 15) := ⟨_, rfl, inX0, by decide, gm1 27 rfl rfl⟩
theorem w_16 (nm : String) : ev_okW tbs "EnclaveMonitor$Hash" nm 8 2 (.null) [] (.invokestatic 49) := ⟨_, rfl, ⟨Or.inl (gm1 148 rfl rfl), gm1 2 rfl rfl, gm1 150 rfl rfl, ⟨by decide +kernel, by decide +kernel, by decide +kernel⟩, by decide⟩, gm1 149 rfl rfl⟩
theorem w_17 (nm : String) : ev_okW tbs "EnclaveMonitor$Hash" nm 1 0 (.null) [] (.getstatic 53) := ⟨_, rfl, gm1 155 rfl rfl⟩
theorem w_18 (nm : String) : ev_okW tbs "EnclaveMonitor$Page" nm 1000 0 (.null) [] (.invokespecial 3) := gm1 73 rfl rfl
theorem w_19 : ev_okW tbs "EnclaveMonitor$Page" "<init>" 1 0 (.null) [] (.putfield 9) := ⟨_, tyX1, rfl, inX1, by decide, gm1 74 rfl rfl, tyX1_ok, nmX1, rfl, Or.inr ⟨rfl, rfl, rfl⟩⟩
theorem w_20 : ev_okW tbs "EnclaveMonitor$Page" "<init>" 1 1 (.null) [] (.putfield 15) := ⟨_, tyX1, rfl, inX1, by decide, gm1 77 rfl rfl, tyX1_ok, nmX1, rfl, Or.inr ⟨rfl, rfl, rfl⟩⟩
theorem w_21 : ev_okW tbs "EnclaveMonitor$Page" "<init>" 1 2 (.int 0) [] (.putfield 18) := ⟨_, tyX1, rfl, inX1, by decide, gm1 79 rfl rfl, tyX1_ok, nmX1, rfl, Or.inl rfl⟩
theorem w_22 : ev_okW tbs "EnclaveMonitor$Page" "<init>" 1 3 (.int 0) [] (.putfield 22) := ⟨_, tyX1, rfl, inX1, by decide, gm1 81 rfl rfl, tyX1_ok, nmX1, rfl, Or.inl rfl⟩
theorem w_23 (nm : String) : ev_okW tbs "EnclaveMonitor$Page" nm 1 2 (.int 0) [] (.putfield 18) := ⟨_, tyX1, rfl, inX1, by decide, gm1 79 rfl rfl, tyX1_ok, nmX1, rfl, Or.inl rfl⟩
theorem w_24 (nm : String) : ev_okW tbs "EnclaveMonitor$Page" nm 1 3 (.int 0) [] (.putfield 22) := ⟨_, tyX1, rfl, inX1, by decide, gm1 81 rfl rfl, tyX1_ok, nmX1, rfl, Or.inl rfl⟩
theorem w_25 (nm : String) : ev_okW tbs "EnclaveMonitor$Page" nm 1 4 (.int 0) [] (.putfield 25) := ⟨_, tyX1, rfl, inX1, by decide, gm1 84 rfl rfl, tyX1_ok, nmX1, rfl, Or.inl rfl⟩
theorem w_26 (nm : String) : ev_okW tbs "EnclaveMonitor$Page" nm 1 5 (.int 0) [] (.putfield 28) := ⟨_, tyX1, rfl, inX1, by decide, gm1 86 rfl rfl, tyX1_ok, nmX1, rfl, Or.inl rfl⟩
theorem w_27 (nm : String) : ev_okW tbs "EnclaveMonitor$Page" nm 1 6 (.int 0) [] (.putfield 31) := ⟨_, tyX1, rfl, inX1, by decide, gm1 89 rfl rfl, tyX1_ok, nmX1, rfl, Or.inl rfl⟩
theorem w_28 (nm : String) : ev_okW tbs "EnclaveMonitor$Page" nm 1 7 (.int 0) [] (.putfield 34) := ⟨_, tyX1, rfl, inX1, by decide, gm1 91 rfl rfl, tyX1_ok, nmX1, rfl, Or.inl rfl⟩
theorem w_29 (nm : String) : ev_okW tbs "EnclaveMonitor$Page" nm 1 0 (.null) [] (.getfield 9) := ⟨_, rfl, inX1, by decide, gm1 74 rfl rfl⟩
theorem w_30 (nm : String) : ev_okW tbs "EnclaveMonitor$Page" nm 1 1 (.null) [] (.getfield 15) := ⟨_, rfl, inX1, by decide, gm1 77 rfl rfl⟩
theorem w_31 (nm : String) : ev_okW tbs "EnclaveMonitor$Page" nm 1 2 (.null) [] (.getfield 18) := ⟨_, rfl, inX1, by decide, gm1 79 rfl rfl⟩
theorem w_32 (nm : String) : ev_okW tbs "EnclaveMonitor$Page" nm 1 3 (.null) [] (.getfield 22) := ⟨_, rfl, inX1, by decide, gm1 81 rfl rfl⟩
theorem w_33 (nm : String) : ev_okW tbs "EnclaveMonitor$Page" nm 53 2 (.null) [] (.invokestatic 37) := ⟨_, rfl, ⟨Or.inr ⟨_, List.mem_of_getElem? (i := 5) rfl⟩, gm1 1 rfl rfl, gm1 220 rfl rfl, ⟨by decide +kernel, by decide +kernel, by decide +kernel⟩, by decide⟩, gm1 219 rfl rfl⟩
theorem w_34 (nm : String) : ev_okW tbs "EnclaveMonitor$Page" nm 16 2 (.null) [] (.invokestatic 41) := ⟨_, rfl, ⟨Or.inl (gm2 120 rfl rfl), gm1 4 rfl rfl, gm2 122 rfl rfl, ⟨by decide +kernel, by decide +kernel, by decide +kernel⟩, by decide⟩, gm2 121 rfl rfl⟩
theorem w_35 (nm : String) : ev_okW tbs "EnclaveMonitor$Page" nm 0 0 (.long (4294967295)) [] (.ldc2_w 45) := ⟨_, rfl, gm2 123 rfl rfl⟩
theorem w_36 (nm : String) : ev_okW tbs "EnclaveMonitor$Runner" nm 1000 0 (.null) [] (.invokespecial 3) := gm1 45 rfl rfl
theorem w_37 (nm : String) : ev_okW tbs "EnclaveMonitor$Runner" nm 0 0 (.null) [] (.anewarray 9) := gm1 46 rfl rfl
theorem w_38 : ev_okW tbs "EnclaveMonitor$Runner" "<init>" 2 0 (.null) [] (.putfield 11) := ⟨_, tyX2, rfl, inX2, by decide, gm1 48 rfl rfl, tyX2_ok, nmX2, rfl, Or.inr ⟨rfl, rfl, rfl⟩⟩
theorem w_39 : ev_okW tbs "EnclaveMonitor$Runner" "<init>" 2 1 (.int 0) [] (.putfield 17) := ⟨_, tyX2, rfl, inX2, by decide, gm1 49 rfl rfl, tyX2_ok, nmX2, rfl, Or.inl rfl⟩
theorem w_40 : ev_okW tbs "EnclaveMonitor$Runner" "<init>" 2 2 (.int 0) [] (.putfield 21) := ⟨_, tyX2, rfl, inX2, by decide, gm1 51 rfl rfl, tyX2_ok, nmX2, rfl, Or.inl rfl⟩
theorem w_41 : ev_okW tbs "EnclaveMonitor$Runner" "<init>" 2 3 (.int 0) [] (.putfield 24) := ⟨_, tyX2, rfl, inX2, by decide, gm1 53 rfl rfl, tyX2_ok, nmX2, rfl, Or.inl rfl⟩
theorem w_42 : ev_okW tbs "EnclaveMonitor$Runner" "<init>" 2 4 (.int 0) [] (.putfield 27) := ⟨_, tyX2, rfl, inX2, by decide, gm1 55 rfl rfl, tyX2_ok, nmX2, rfl, Or.inl rfl⟩
theorem w_43 (nm : String) : ev_okW tbs "EnclaveMonitor$Runner" nm 2 0 (.null) [] (.getfield 11) := ⟨_, rfl, inX2, by decide, gm1 48 rfl rfl⟩
theorem w_44 (nm : String) : ev_okW tbs "EnclaveMonitor$Runner" nm 13 1 (.null) [1] (.invokevirtual 30) := ⟨_, 1, _, rfl, rfl, rfl, rfl, ⟨Or.inl (gm2 70 rfl rfl), gm1 4 rfl rfl, gm2 20 rfl rfl, ⟨by decide +kernel, by decide +kernel, by decide +kernel⟩, by decide⟩, gm2 18 rfl rfl, gm2 19 rfl rfl⟩
theorem w_45 (nm : String) : ev_okW tbs "EnclaveMonitor$Runner" nm 1 4 (.null) [] (.getfield 34) := ⟨_, rfl, inX1, by decide, gm1 83 rfl rfl⟩
theorem w_46 (nm : String) : ev_okW tbs "EnclaveMonitor$Runner" nm 53 2 (.null) [] (.invokestatic 37) := ⟨_, rfl, ⟨Or.inr ⟨_, List.mem_of_getElem? (i := 4) rfl⟩, gm1 1 rfl rfl, gm1 220 rfl rfl, ⟨by decide +kernel, by decide +kernel, by decide +kernel⟩, by decide⟩, gm1 219 rfl rfl⟩
theorem w_47 (nm : String) : ev_okW tbs "EnclaveMonitor$Runner" nm 2 2 (.int 0) [] (.putfield 21) := ⟨_, tyX2, rfl, inX2, by decide, gm1 51 rfl rfl, tyX2_ok, nmX2, rfl, Or.inl rfl⟩
theorem w_48 (nm : String) : ev_okW tbs "EnclaveMonitor$Runner" nm 2 3 (.int 0) [] (.putfield 24) := ⟨_, tyX2, rfl, inX2, by decide, gm1 53 rfl rfl, tyX2_ok, nmX2, rfl, Or.inl rfl⟩
theorem w_49 (nm : String) : ev_okW tbs "EnclaveMonitor$Runner" nm 2 4 (.int 0) [] (.putfield 27) := ⟨_, tyX2, rfl, inX2, by decide, gm1 55 rfl rfl, tyX2_ok, nmX2, rfl, Or.inl rfl⟩
theorem w_50 (nm : String) : ev_okW tbs "EnclaveMonitor$Runner" nm 21 2 (.null) [2] (.invokevirtual 41) := ⟨_, 2, _, rfl, rfl, rfl, rfl, ⟨Or.inl (gm2 76 rfl rfl), gm1 3 rfl rfl, gm2 79 rfl rfl, ⟨by decide +kernel, by decide +kernel, by decide +kernel⟩, by decide⟩, gm2 78 rfl rfl, gm0 13 rfl rfl⟩
theorem w_51 (nm : String) : ev_okW tbs "EnclaveMonitor$Runner" nm 2 4 (.null) [] (.getfield 27) := ⟨_, rfl, inX2, by decide, gm1 55 rfl rfl⟩
theorem w_52 (nm : String) : ev_okW tbs "EnclaveMonitor$Runner" nm 2 1 (.int 0) [] (.putfield 17) := ⟨_, tyX2, rfl, inX2, by decide, gm1 49 rfl rfl, tyX2_ok, nmX2, rfl, Or.inl rfl⟩
theorem w_53 (nm : String) : ev_okW tbs "EnclaveMonitor$Runner" nm 2 1 (.null) [] (.getfield 17) := ⟨_, rfl, inX2, by decide, gm1 49 rfl rfl⟩
theorem w_54 (nm : String) : ev_okW tbs "EnclaveMonitor$Runner" nm 20 1 (.null) [2] (.invokevirtual 45) := ⟨_, 2, _, rfl, rfl, rfl, rfl, ⟨Or.inl (gm2 95 rfl rfl), gm1 3 rfl rfl, gm2 98 rfl rfl, ⟨by decide +kernel, by decide +kernel, by decide +kernel⟩, by decide⟩, gm2 97 rfl rfl, gm0 17 rfl rfl⟩
theorem w_55 (nm : String) : ev_okW tbs "EnclaveMonitor$Runner" nm 25 2 (.null) [2] (.invokevirtual 49) := ⟨_, 2, _, rfl, rfl, rfl, rfl, ⟨Or.inl (gm2 80 rfl rfl), gm1 3 rfl rfl, gm2 83 rfl rfl, ⟨by decide +kernel, by decide +kernel, by decide +kernel⟩, by decide⟩, gm2 82 rfl rfl, gm0 14 rfl rfl⟩
theorem w_56 (nm : String) : ev_okW tbs "EnclaveMonitor$Runner" nm 1 0 (.null) [] (.getfield 53) := ⟨_, rfl, inX1, by decide, gm1 75 rfl rfl⟩
theorem w_57 (nm : String) : ev_okW tbs "EnclaveMonitor$Runner" nm 22 1 (.null) [] (.invokestatic 57) := ⟨_, rfl, ⟨Or.inl (gm2 84 rfl rfl), gm1 3 rfl rfl, gm2 86 rfl rfl, ⟨by decide +kernel, by decide +kernel, by decide +kernel⟩, by decide⟩, gm2 85 rfl rfl⟩
theorem w_58 (nm : String) : ev_okW tbs "EnclaveMonitor$Runner" nm 23 3 (.null) [2] (.invokevirtual 61) := ⟨_, 2, _, rfl, rfl, rfl, rfl, ⟨Or.inl (gm2 87 rfl rfl), gm1 3 rfl rfl, gm2 90 rfl rfl, ⟨by decide +kernel, by decide +kernel, by decide +kernel⟩, by decide⟩, gm2 89 rfl rfl, gm0 15 rfl rfl⟩
theorem w_59 (nm : String) : ev_okW tbs "EnclaveMonitor$Runner" nm 24 2 (.null) [2] (.invokevirtual 65) := ⟨_, 2, _, rfl, rfl, rfl, rfl, ⟨Or.inl (gm2 91 rfl rfl), gm1 3 rfl rfl, gm2 94 rfl rfl, ⟨by decide +kernel, by decide +kernel, by decide +kernel⟩, by decide⟩, gm2 93 rfl rfl, gm0 16 rfl rfl⟩
theorem w_60 (nm : String) : ev_okW tbs "EnclaveMonitor$Runner" nm 1 5 (.null) [] (.getfield 68) := ⟨_, rfl, inX1, by decide, gm1 88 rfl rfl⟩
theorem w_61 (nm : String) : ev_okW tbs "EnclaveMonitor$Sealer" nm 1000 0 (.null) [] (.invokespecial 3) := gm1 115 rfl rfl
theorem w_62 (nm : String) : ev_okW tbs "EnclaveMonitor$Sealer" nm 0 4 (.null) [2, 2, 2, 0] (.new 9) := ⟨_, tyX0, rfl, inX0, rfl, tyX0_ok, gm1 116 rfl rfl, gm1 21 rfl rfl, gm1 2 rfl rfl, rfl, by decide +kernel⟩
theorem w_63 (nm : String) : ev_okW tbs "EnclaveMonitor$Sealer" nm 0 0 (.null) [] (.invokespecial 11) := ⟨_, rfl, ⟨Or.inr ⟨_, List.mem_of_getElem? (i := 3) rfl⟩, gm1 2 rfl rfl, gm1 24 rfl rfl, ⟨by decide +kernel, by decide +kernel, by decide +kernel⟩, by decide⟩, rfl, gm1 23 rfl rfl, rfl⟩
theorem w_64 : ev_okW tbs "EnclaveMonitor$Sealer" "<init>" 3 0 (.null) [] (.putfield 12) := ⟨_, tyX3, rfl, inX3, by decide, gm1 157 rfl rfl, tyX3_ok, nmX3, rfl, Or.inr ⟨rfl, rfl, rfl⟩⟩
theorem w_65 : ev_okW tbs "EnclaveMonitor$Sealer" "<init>" 3 1 (.null) [] (.putfield 18) := ⟨_, tyX3, rfl, inX3, by decide, gm1 158 rfl rfl, tyX3_ok, nmX3, rfl, Or.inr ⟨rfl, rfl, rfl⟩⟩
theorem w_66 : ev_okW tbs "EnclaveMonitor$Sealer" "<init>" 3 2 (.null) [] (.putfield 22) := ⟨_, tyX3, rfl, inX3, by decide, gm1 159 rfl rfl, tyX3_ok, nmX3, rfl, Or.inr ⟨rfl, rfl, rfl⟩⟩
theorem w_67 : ev_okW tbs "EnclaveMonitor$Sealer" "<init>" 3 3 (.null) [] (.putfield 25) := ⟨_, tyX3, rfl, inX3, by decide, gm1 160 rfl rfl, tyX3_ok, nmX3, rfl, Or.inr ⟨rfl, rfl, rfl⟩⟩
theorem w_68 : ev_okW tbs "EnclaveMonitor$Sealer" "<init>" 3 4 (.null) [] (.putfield 28) := ⟨_, tyX3, rfl, inX3, by decide, gm1 161 rfl rfl, tyX3_ok, nmX3, rfl, Or.inr ⟨rfl, rfl, rfl⟩⟩
theorem w_69 : ev_okW tbs "EnclaveMonitor$Sealer" "<init>" 3 5 (.null) [] (.putfield 31) := ⟨_, tyX3, rfl, inX3, by decide, gm1 162 rfl rfl, tyX3_ok, nmX3, rfl, Or.inr ⟨rfl, rfl, rfl⟩⟩
theorem w_70 (nm : String) : ev_okW tbs "EnclaveMonitor$Sealer" nm 3 1 (.null) [] (.getfield 18) := ⟨_, rfl, inX3, by decide, gm1 158 rfl rfl⟩
theorem w_71 (nm : String) : ev_okW tbs "EnclaveMonitor$Sealer" nm 27 3 (.null) [3] (.invokevirtual 34) := ⟨_, 3, _, rfl, rfl, rfl, rfl, ⟨Or.inl (gm1 118 rfl rfl), gm1 5 rfl rfl, gm1 121 rfl rfl, ⟨by decide +kernel, by decide +kernel, by decide +kernel⟩, by decide⟩, gm1 120 rfl rfl, gm0 0 rfl rfl⟩
theorem w_72 (nm : String) : ev_okW tbs "EnclaveMonitor$Sealer" nm 3 2 (.null) [] (.getfield 22) := ⟨_, rfl, inX3, by decide, gm1 159 rfl rfl⟩
theorem w_73 (nm : String) : ev_okW tbs "EnclaveMonitor$Sealer" nm 3 0 (.null) [] (.getfield 12) := ⟨_, rfl, inX3, by decide, gm1 157 rfl rfl⟩
theorem w_74 (nm : String) : ev_okW tbs "EnclaveMonitor$Sealer" nm 1 0 (.null) [0] (.invokevirtual 38) := ⟨_, 0, _, rfl, rfl, rfl, rfl, ⟨Or.inl (gm1 122 rfl rfl), gm1 2 rfl rfl, gm1 125 rfl rfl, ⟨by decide +kernel, by decide +kernel, by decide +kernel⟩, by decide⟩, gm1 123 rfl rfl, gm1 124 rfl rfl⟩
theorem w_75 (nm : String) : ev_okW tbs "EnclaveMonitor$Sealer" nm 2 1 (.null) [0] (.invokevirtual 41) := ⟨_, 0, _, rfl, rfl, rfl, rfl, ⟨Or.inl (gm1 126 rfl rfl), gm1 2 rfl rfl, gm1 129 rfl rfl, ⟨by decide +kernel, by decide +kernel, by decide +kernel⟩, by decide⟩, gm1 127 rfl rfl, gm1 128 rfl rfl⟩
theorem w_76 (nm : String) : ev_okW tbs "EnclaveMonitor$Sealer" nm 4 2 (.null) [0] (.invokevirtual 45) := ⟨_, 0, _, rfl, rfl, rfl, rfl, ⟨Or.inl (gm1 130 rfl rfl), gm1 2 rfl rfl, gm1 133 rfl rfl, ⟨by decide +kernel, by decide +kernel, by decide +kernel⟩, by decide⟩, gm1 131 rfl rfl, gm1 132 rfl rfl⟩
theorem w_77 (nm : String) : ev_okW tbs "EnclaveMonitor$Sealer" nm 0 0 (.int (909522486)) [] (.ldc 49) := ⟨_, rfl, gm2 150 rfl rfl⟩
theorem w_78 (nm : String) : ev_okW tbs "EnclaveMonitor$Sealer" nm 29 1 (.null) [3] (.invokevirtual 50) := ⟨_, 3, _, rfl, rfl, rfl, rfl, ⟨Or.inl (gm2 151 rfl rfl), gm1 5 rfl rfl, gm2 154 rfl rfl, ⟨by decide +kernel, by decide +kernel, by decide +kernel⟩, by decide⟩, gm2 153 rfl rfl, gm0 22 rfl rfl⟩
theorem w_79 (nm : String) : ev_okW tbs "EnclaveMonitor$Sealer" nm 3 2 (.null) [0] (.invokevirtual 53) := ⟨_, 0, _, rfl, rfl, rfl, rfl, ⟨Or.inl (gm2 155 rfl rfl), gm1 2 rfl rfl, gm2 5 rfl rfl, ⟨by decide +kernel, by decide +kernel, by decide +kernel⟩, by decide⟩, gm2 3 rfl rfl, gm2 4 rfl rfl⟩
theorem w_80 (nm : String) : ev_okW tbs "EnclaveMonitor$Sealer" nm 3 3 (.null) [] (.getfield 25) := ⟨_, rfl, inX3, by decide, gm1 160 rfl rfl⟩
theorem w_81 (nm : String) : ev_okW tbs "EnclaveMonitor$Sealer" nm 0 0 (.int (1549556828)) [] (.ldc 56) := ⟨_, rfl, gm2 156 rfl rfl⟩
theorem w_82 (nm : String) : ev_okW tbs "EnclaveMonitor$Sealer" nm 31 3 (.null) [3] (.invokevirtual 57) := ⟨_, 3, _, rfl, rfl, rfl, rfl, ⟨Or.inl (gm2 132 rfl rfl), gm1 5 rfl rfl, gm2 135 rfl rfl, ⟨by decide +kernel, by decide +kernel, by decide +kernel⟩, by decide⟩, gm2 134 rfl rfl, gm0 20 rfl rfl⟩
theorem w_83 (nm : String) : ev_okW tbs "EnclaveMonitor$Sealer" nm 3 5 (.null) [] (.getfield 31) := ⟨_, rfl, inX3, by decide, gm1 162 rfl rfl⟩
theorem w_84 (nm : String) : ev_okW tbs "EnclaveMonitor$Sealer" nm 2 0 (.null) [] (.getstatic 61) := ⟨_, rfl, gm2 136 rfl rfl⟩
theorem w_85 (nm : String) : ev_okW tbs "EnclaveMonitor$Sealer" nm 3 4 (.null) [] (.getfield 28) := ⟨_, rfl, inX3, by decide, gm1 161 rfl rfl⟩
theorem w_86 (nm : String) : ev_okW tbs "EnclaveMonitor$Sealer" nm 1001 0 (.null) [] (.invokestatic 64) := gm2 138 rfl rfl
theorem w_87 (nm : String) : ev_okW tbs "EnclaveMonitor$Sealer" nm 32 4 (.null) [3] (.invokevirtual 70) := ⟨_, 3, _, rfl, rfl, rfl, rfl, ⟨Or.inl (gm2 139 rfl rfl), gm1 5 rfl rfl, gm2 142 rfl rfl, ⟨by decide +kernel, by decide +kernel, by decide +kernel⟩, by decide⟩, gm2 141 rfl rfl, gm0 21 rfl rfl⟩
theorem w_88 (nm : String) : ev_okW tbs "EnclaveMonitor$Sealer" nm 33 2 (.null) [] (.invokestatic 74) := ⟨_, rfl, ⟨Or.inl (gm2 143 rfl rfl), gm1 5 rfl rfl, gm2 145 rfl rfl, ⟨by decide +kernel, by decide +kernel, by decide +kernel⟩, by decide⟩, gm2 144 rfl rfl⟩
theorem w_89 (nm : String) : ev_okW tbs "EnclaveMonitor" nm 1000 0 (.null) [] (.invokespecial 3) := gm1 17 rfl rfl
theorem w_90 : ev_okW tbs "EnclaveMonitor" "<init>" 4 1 (.null) [] (.putfield 9) := ⟨_, tyX4, rfl, inX4, by decide, gm1 177 rfl rfl, tyX4_ok, nmX4, rfl, Or.inr ⟨rfl, rfl, rfl⟩⟩
theorem w_91 : ev_okW tbs "EnclaveMonitor" "<init>" 4 2 (.null) [] (.putfield 13) := ⟨_, tyX4, rfl, inX4, by decide, gm1 178 rfl rfl, tyX4_ok, nmX4, rfl, Or.inr ⟨rfl, rfl, rfl⟩⟩
theorem w_92 (nm : String) : ev_okW tbs "EnclaveMonitor" nm 0 4 (.null) [2, 2, 2, 0] (.new 16) := ⟨_, tyX0, rfl, inX0, rfl, tyX0_ok, gm1 20 rfl rfl, gm1 21 rfl rfl, gm1 2 rfl rfl, rfl, by decide +kernel⟩
theorem w_93 (nm : String) : ev_okW tbs "EnclaveMonitor" nm 0 0 (.null) [] (.invokespecial 18) := ⟨_, rfl, ⟨Or.inr ⟨_, List.mem_of_getElem? (i := 0) rfl⟩, gm1 2 rfl rfl, gm1 24 rfl rfl, ⟨by decide +kernel, by decide +kernel, by decide +kernel⟩, by decide⟩, rfl, gm1 23 rfl rfl, rfl⟩
theorem w_94 : ev_okW tbs "EnclaveMonitor" "<init>" 4 3 (.null) [] (.putfield 19) := ⟨_, tyX4, rfl, inX4, by decide, gm1 179 rfl rfl, tyX4_ok, nmX4, rfl, Or.inr ⟨rfl, rfl, rfl⟩⟩
theorem w_95 (nm : String) : ev_okW tbs "EnclaveMonitor" nm 2 5 (.null) [2, 0, 0, 0, 0] (.new 23) := ⟨_, tyX2, rfl, inX2, rfl, tyX2_ok, gm1 40 rfl rfl, gm1 41 rfl rfl, gm1 3 rfl rfl, rfl, by decide +kernel⟩
theorem w_96 (nm : String) : ev_okW tbs "EnclaveMonitor" nm 17 0 (.null) [] (.invokespecial 25) := ⟨_, rfl, ⟨Or.inr ⟨_, List.mem_of_getElem? (i := 1) rfl⟩, gm1 3 rfl rfl, gm1 44 rfl rfl, ⟨by decide +kernel, by decide +kernel, by decide +kernel⟩, by decide⟩, rfl, gm1 43 rfl rfl, rfl⟩
theorem w_97 : ev_okW tbs "EnclaveMonitor" "<init>" 4 5 (.null) [] (.putfield 26) := ⟨_, tyX4, rfl, inX4, by decide, gm1 181 rfl rfl, tyX4_ok, nmX4, rfl, Or.inr ⟨rfl, rfl, rfl⟩⟩
theorem w_98 (nm : String) : ev_okW tbs "EnclaveMonitor" nm 0 0 (.null) [] (.anewarray 30) := gm1 68 rfl rfl
theorem w_99 : ev_okW tbs "EnclaveMonitor" "<init>" 4 0 (.null) [] (.putfield 32) := ⟨_, tyX4, rfl, inX4, by decide, gm1 176 rfl rfl, tyX4_ok, nmX4, rfl, Or.inr ⟨rfl, rfl, rfl⟩⟩
theorem w_100 (nm : String) : ev_okW tbs "EnclaveMonitor" nm 4 0 (.null) [] (.getfield 32) := ⟨_, rfl, inX4, by decide, gm1 176 rfl rfl⟩
theorem w_101 (nm : String) : ev_okW tbs "EnclaveMonitor" nm 1 8 (.null) [2, 2, 0, 0, 0, 0, 0, 0] (.new 30) := ⟨_, tyX1, rfl, inX1, rfl, tyX1_ok, gm1 68 rfl rfl, gm1 69 rfl rfl, gm1 4 rfl rfl, rfl, by decide +kernel⟩
theorem w_102 (nm : String) : ev_okW tbs "EnclaveMonitor" nm 9 0 (.null) [] (.invokespecial 36) := ⟨_, rfl, ⟨Or.inr ⟨_, List.mem_of_getElem? (i := 2) rfl⟩, gm1 4 rfl rfl, gm1 72 rfl rfl, ⟨by decide +kernel, by decide +kernel, by decide +kernel⟩, by decide⟩, rfl, gm1 71 rfl rfl, rfl⟩
theorem w_103 (nm : String) : ev_okW tbs "EnclaveMonitor" nm 3 6 (.null) [2, 2, 2, 2, 2, 2] (.new 37) := ⟨_, tyX3, rfl, inX3, rfl, tyX3_ok, gm1 110 rfl rfl, gm1 111 rfl rfl, gm1 5 rfl rfl, rfl, by decide +kernel⟩
theorem w_104 (nm : String) : ev_okW tbs "EnclaveMonitor" nm 26 1 (.null) [] (.invokespecial 39) := ⟨_, rfl, ⟨Or.inl (gm1 112 rfl rfl), gm1 5 rfl rfl, gm1 114 rfl rfl, ⟨by decide +kernel, by decide +kernel, by decide +kernel⟩, by decide⟩, rfl, gm1 113 rfl rfl, rfl⟩
theorem w_105 : ev_okW tbs "EnclaveMonitor" "<init>" 4 4 (.null) [] (.putfield 42) := ⟨_, tyX4, rfl, inX4, by decide, gm1 180 rfl rfl, tyX4_ok, nmX4, rfl, Or.inr ⟨rfl, rfl, rfl⟩⟩
theorem w_106 (nm : String) : ev_okW tbs "EnclaveMonitor" nm 53 2 (.null) [] (.invokestatic 46) := ⟨_, rfl, ⟨Or.inl (gm1 218 rfl rfl), gm1 1 rfl rfl, gm1 220 rfl rfl, ⟨by decide +kernel, by decide +kernel, by decide +kernel⟩, by decide⟩, gm1 219 rfl rfl⟩
theorem w_107 (nm : String) : ev_okW tbs "EnclaveMonitor" nm 4 1 (.null) [] (.getfield 9) := ⟨_, rfl, inX4, by decide, gm1 177 rfl rfl⟩
theorem w_108 (nm : String) : ev_okW tbs "EnclaveMonitor" nm 54 2 (.null) [4] (.invokevirtual 57) := ⟨_, 4, _, rfl, rfl, rfl, rfl, ⟨Or.inl (gm1 214 rfl rfl), gm1 1 rfl rfl, gm1 217 rfl rfl, ⟨by decide +kernel, by decide +kernel, by decide +kernel⟩, by decide⟩, gm1 216 rfl rfl, gm0 4 rfl rfl⟩
theorem w_109 (nm : String) : ev_okW tbs "EnclaveMonitor" nm 4 10 (.null) [] (.getfield 60) := ⟨_, rfl, inX4, by decide, gm1 186 rfl rfl⟩
theorem w_110 (nm : String) : ev_okW tbs "EnclaveMonitor" nm 4 10 (.int 0) [] (.putfield 60) := ⟨_, tyX4, rfl, inX4, by decide, gm1 186 rfl rfl, tyX4_ok, nmX4, rfl, Or.inl rfl⟩
theorem w_111 (nm : String) : ev_okW tbs "EnclaveMonitor" nm 1 2 (.int 0) [] (.putfield 64) := ⟨_, tyX1, rfl, inX1, by decide, gm1 80 rfl rfl, tyX1_ok, nmX1, rfl, Or.inl rfl⟩
theorem w_112 (nm : String) : ev_okW tbs "EnclaveMonitor" nm 1 7 (.int 0) [] (.putfield 67) := ⟨_, tyX1, rfl, inX1, by decide, gm1 92 rfl rfl, tyX1_ok, nmX1, rfl, Or.inl rfl⟩
theorem w_113 (nm : String) : ev_okW tbs "EnclaveMonitor" nm 1 6 (.int 0) [] (.putfield 70) := ⟨_, tyX1, rfl, inX1, by decide, gm1 90 rfl rfl, tyX1_ok, nmX1, rfl, Or.inl rfl⟩
theorem w_114 (nm : String) : ev_okW tbs "EnclaveMonitor" nm 59 2 (.null) [4] (.invokevirtual 73) := ⟨_, 4, _, rfl, rfl, rfl, rfl, ⟨Or.inl (gm1 225 rfl rfl), gm1 1 rfl rfl, gm1 228 rfl rfl, ⟨by decide +kernel, by decide +kernel, by decide +kernel⟩, by decide⟩, gm1 227 rfl rfl, gm0 5 rfl rfl⟩
theorem w_115 (nm : String) : ev_okW tbs "EnclaveMonitor" nm 10 2 (.null) [1] (.invokevirtual 77) := ⟨_, 1, _, rfl, rfl, rfl, rfl, ⟨Or.inl (gm1 233 rfl rfl), gm1 4 rfl rfl, gm1 236 rfl rfl, ⟨by decide +kernel, by decide +kernel, by decide +kernel⟩, by decide⟩, gm1 234 rfl rfl, gm1 235 rfl rfl⟩
theorem w_116 (nm : String) : ev_okW tbs "EnclaveMonitor" nm 1 0 (.null) [] (.getfield 81) := ⟨_, rfl, inX1, by decide, gm1 76 rfl rfl⟩
theorem w_117 (nm : String) : ev_okW tbs "EnclaveMonitor" nm 60 3 (.null) [4] (.invokevirtual 84) := ⟨_, 4, _, rfl, rfl, rfl, rfl, ⟨Or.inl (gm1 237 rfl rfl), gm1 1 rfl rfl, gm2 0 rfl rfl, ⟨by decide +kernel, by decide +kernel, by decide +kernel⟩, by decide⟩, gm1 239 rfl rfl, gm0 7 rfl rfl⟩
theorem w_118 (nm : String) : ev_okW tbs "EnclaveMonitor" nm 58 2 (.null) [4] (.invokevirtual 88) := ⟨_, 4, _, rfl, rfl, rfl, rfl, ⟨Or.inl (gm2 13 rfl rfl), gm1 1 rfl rfl, gm2 16 rfl rfl, ⟨by decide +kernel, by decide +kernel, by decide +kernel⟩, by decide⟩, gm2 15 rfl rfl, gm0 8 rfl rfl⟩
theorem w_119 (nm : String) : ev_okW tbs "EnclaveMonitor" nm 1 4 (.int 0) [] (.putfield 91) := ⟨_, tyX1, rfl, inX1, by decide, gm1 85 rfl rfl, tyX1_ok, nmX1, rfl, Or.inl rfl⟩
theorem w_120 (nm : String) : ev_okW tbs "EnclaveMonitor" nm 1 5 (.int 0) [] (.putfield 94) := ⟨_, tyX1, rfl, inX1, by decide, gm1 87 rfl rfl, tyX1_ok, nmX1, rfl, Or.inl rfl⟩
theorem w_121 (nm : String) : ev_okW tbs "EnclaveMonitor" nm 1001 0 (.null) [] (.invokestatic 97) := gm2 21 rfl rfl
theorem w_122 (nm : String) : ev_okW tbs "EnclaveMonitor" nm 55 1 (.null) [4] (.invokevirtual 103) := ⟨_, 4, _, rfl, rfl, rfl, rfl, ⟨Or.inl (gm1 229 rfl rfl), gm1 1 rfl rfl, gm1 232 rfl rfl, ⟨by decide +kernel, by decide +kernel, by decide +kernel⟩, by decide⟩, gm1 231 rfl rfl, gm0 6 rfl rfl⟩
theorem w_123 (nm : String) : ev_okW tbs "EnclaveMonitor" nm 4 3 (.null) [] (.getfield 19) := ⟨_, rfl, inX4, by decide, gm1 179 rfl rfl⟩
theorem w_124 (nm : String) : ev_okW tbs "EnclaveMonitor" nm 1 0 (.null) [0] (.invokevirtual 107) := ⟨_, 0, _, rfl, rfl, rfl, rfl, ⟨Or.inl (gm2 1 rfl rfl), gm1 2 rfl rfl, gm1 125 rfl rfl, ⟨by decide +kernel, by decide +kernel, by decide +kernel⟩, by decide⟩, gm1 123 rfl rfl, gm1 124 rfl rfl⟩
theorem w_125 (nm : String) : ev_okW tbs "EnclaveMonitor" nm 1 1 (.null) [] (.getfield 110) := ⟨_, rfl, inX1, by decide, gm1 78 rfl rfl⟩
theorem w_126 (nm : String) : ev_okW tbs "EnclaveMonitor" nm 3 2 (.null) [0] (.invokevirtual 113) := ⟨_, 0, _, rfl, rfl, rfl, rfl, ⟨Or.inl (gm2 2 rfl rfl), gm1 2 rfl rfl, gm2 5 rfl rfl, ⟨by decide +kernel, by decide +kernel, by decide +kernel⟩, by decide⟩, gm2 3 rfl rfl, gm2 4 rfl rfl⟩
theorem w_127 (nm : String) : ev_okW tbs "EnclaveMonitor" nm 2 1 (.null) [0] (.invokevirtual 117) := ⟨_, 0, _, rfl, rfl, rfl, rfl, ⟨Or.inl (gm2 7 rfl rfl), gm1 2 rfl rfl, gm1 129 rfl rfl, ⟨by decide +kernel, by decide +kernel, by decide +kernel⟩, by decide⟩, gm1 127 rfl rfl, gm1 128 rfl rfl⟩
theorem w_128 (nm : String) : ev_okW tbs "EnclaveMonitor" nm 4 2 (.null) [0] (.invokevirtual 121) := ⟨_, 0, _, rfl, rfl, rfl, rfl, ⟨Or.inl (gm2 8 rfl rfl), gm1 2 rfl rfl, gm1 133 rfl rfl, ⟨by decide +kernel, by decide +kernel, by decide +kernel⟩, by decide⟩, gm1 131 rfl rfl, gm1 132 rfl rfl⟩
theorem w_129 (nm : String) : ev_okW tbs "EnclaveMonitor" nm 61 1 (.null) [4] (.invokevirtual 124) := ⟨_, 4, _, rfl, rfl, rfl, rfl, ⟨Or.inl (gm2 38 rfl rfl), gm1 1 rfl rfl, gm2 41 rfl rfl, ⟨by decide +kernel, by decide +kernel, by decide +kernel⟩, by decide⟩, gm2 40 rfl rfl, gm0 9 rfl rfl⟩
theorem w_130 (nm : String) : ev_okW tbs "EnclaveMonitor" nm 11 0 (.null) [1] (.invokevirtual 128) := ⟨_, 1, _, rfl, rfl, rfl, rfl, ⟨Or.inl (gm2 46 rfl rfl), gm1 4 rfl rfl, gm2 49 rfl rfl, ⟨by decide +kernel, by decide +kernel, by decide +kernel⟩, by decide⟩, gm2 47 rfl rfl, gm2 48 rfl rfl⟩
theorem w_131 (nm : String) : ev_okW tbs "EnclaveMonitor" nm 62 3 (.null) [4] (.invokevirtual 131) := ⟨_, 4, _, rfl, rfl, rfl, rfl, ⟨Or.inl (gm2 54 rfl rfl), gm1 1 rfl rfl, gm2 57 rfl rfl, ⟨by decide +kernel, by decide +kernel, by decide +kernel⟩, by decide⟩, gm2 56 rfl rfl, gm0 11 rfl rfl⟩
theorem w_132 (nm : String) : ev_okW tbs "EnclaveMonitor" nm 63 2 (.null) [4] (.invokevirtual 135) := ⟨_, 4, _, rfl, rfl, rfl, rfl, ⟨Or.inl (gm2 62 rfl rfl), gm1 1 rfl rfl, gm2 65 rfl rfl, ⟨by decide +kernel, by decide +kernel, by decide +kernel⟩, by decide⟩, gm2 64 rfl rfl, gm0 12 rfl rfl⟩
theorem w_133 (nm : String) : ev_okW tbs "EnclaveMonitor" nm 4 5 (.null) [] (.getfield 26) := ⟨_, rfl, inX4, by decide, gm1 181 rfl rfl⟩
theorem w_134 (nm : String) : ev_okW tbs "EnclaveMonitor" nm 2 1 (.null) [] (.getfield 138) := ⟨_, rfl, inX2, by decide, gm1 50 rfl rfl⟩
theorem w_135 (nm : String) : ev_okW tbs "EnclaveMonitor" nm 2 2 (.null) [] (.getfield 141) := ⟨_, rfl, inX2, by decide, gm1 52 rfl rfl⟩
theorem w_136 (nm : String) : ev_okW tbs "EnclaveMonitor" nm 2 3 (.null) [] (.getfield 144) := ⟨_, rfl, inX2, by decide, gm1 54 rfl rfl⟩
theorem w_137 (nm : String) : ev_okW tbs "EnclaveMonitor" nm 2 4 (.null) [] (.getfield 147) := ⟨_, rfl, inX2, by decide, gm1 56 rfl rfl⟩
theorem w_138 (nm : String) : ev_okW tbs "EnclaveMonitor" nm 64 3 (.null) [4] (.invokevirtual 150) := ⟨_, 4, _, rfl, rfl, rfl, rfl, ⟨Or.inl (gm2 111 rfl rfl), gm1 1 rfl rfl, gm2 114 rfl rfl, ⟨by decide +kernel, by decide +kernel, by decide +kernel⟩, by decide⟩, gm2 113 rfl rfl, gm0 18 rfl rfl⟩
theorem w_139 (nm : String) : ev_okW tbs "EnclaveMonitor" nm 4 6 (.null) [] (.getfield 154) := ⟨_, rfl, inX4, by decide, gm1 182 rfl rfl⟩
theorem w_140 (nm : String) : ev_okW tbs "EnclaveMonitor" nm 4 6 (.long 0) [] (.putfield 154) := ⟨_, tyX4, rfl, inX4, by decide, gm1 182 rfl rfl, tyX4_ok, nmX4, rfl, Or.inl rfl⟩
theorem w_141 (nm : String) : ev_okW tbs "EnclaveMonitor" nm 67 2 (.null) [4] (.invokevirtual 158) := ⟨_, 4, _, rfl, rfl, rfl, rfl, ⟨Or.inl (gm2 124 rfl rfl), gm1 1 rfl rfl, gm2 127 rfl rfl, ⟨by decide +kernel, by decide +kernel, by decide +kernel⟩, by decide⟩, gm2 126 rfl rfl, gm0 19 rfl rfl⟩
theorem w_142 (nm : String) : ev_okW tbs "EnclaveMonitor" nm 15 2 (.null) [1] (.invokevirtual 162) := ⟨_, 1, _, rfl, rfl, rfl, rfl, ⟨Or.inl (gm2 157 rfl rfl), gm1 4 rfl rfl, gm2 160 rfl rfl, ⟨by decide +kernel, by decide +kernel, by decide +kernel⟩, by decide⟩, gm2 158 rfl rfl, gm2 159 rfl rfl⟩
theorem w_143 (nm : String) : ev_okW tbs "EnclaveMonitor" nm 65 4 (.null) [4] (.invokevirtual 166) := ⟨_, 4, _, rfl, rfl, rfl, rfl, ⟨Or.inl (gm2 165 rfl rfl), gm1 1 rfl rfl, gm2 168 rfl rfl, ⟨by decide +kernel, by decide +kernel, by decide +kernel⟩, by decide⟩, gm2 167 rfl rfl, gm0 23 rfl rfl⟩
theorem w_144 (nm : String) : ev_okW tbs "EnclaveMonitor" nm 4 8 (.null) [] (.getfield 170) := ⟨_, rfl, inX4, by decide, gm1 184 rfl rfl⟩
theorem w_145 (nm : String) : ev_okW tbs "EnclaveMonitor" nm 4 8 (.int 0) [] (.putfield 170) := ⟨_, tyX4, rfl, inX4, by decide, gm1 184 rfl rfl, tyX4_ok, nmX4, rfl, Or.inl rfl⟩
theorem w_146 (nm : String) : ev_okW tbs "EnclaveMonitor" nm 4 9 (.null) [] (.getfield 173) := ⟨_, rfl, inX4, by decide, gm1 185 rfl rfl⟩
theorem w_147 (nm : String) : ev_okW tbs "EnclaveMonitor" nm 4 9 (.int 0) [] (.putfield 173) := ⟨_, tyX4, rfl, inX4, by decide, gm1 185 rfl rfl, tyX4_ok, nmX4, rfl, Or.inl rfl⟩
theorem w_148 (nm : String) : ev_okW tbs "EnclaveMonitor" nm 4 7 (.null) [] (.getfield 176) := ⟨_, rfl, inX4, by decide, gm1 183 rfl rfl⟩
theorem w_149 (nm : String) : ev_okW tbs "EnclaveMonitor" nm 4 7 (.int 0) [] (.putfield 176) := ⟨_, tyX4, rfl, inX4, by decide, gm1 183 rfl rfl, tyX4_ok, nmX4, rfl, Or.inl rfl⟩
theorem w_150 (nm : String) : ev_okW tbs "EnclaveMonitor" nm 68 2 (.null) [4] (.invokevirtual 179) := ⟨_, 4, _, rfl, rfl, rfl, rfl, ⟨Or.inl (gm2 174 rfl rfl), gm1 1 rfl rfl, gm2 177 rfl rfl, ⟨by decide +kernel, by decide +kernel, by decide +kernel⟩, by decide⟩, gm2 176 rfl rfl, gm0 25 rfl rfl⟩
theorem w_151 (nm : String) : ev_okW tbs "EnclaveMonitor" nm 1 2 (.null) [] (.getfield 64) := ⟨_, rfl, inX1, by decide, gm1 80 rfl rfl⟩
theorem w_152 (nm : String) : ev_okW tbs "EnclaveMonitor" nm 1 3 (.null) [] (.getfield 183) := ⟨_, rfl, inX1, by decide, gm1 82 rfl rfl⟩
theorem w_153 (nm : String) : ev_okW tbs "EnclaveMonitor" nm 1 4 (.null) [] (.getfield 91) := ⟨_, rfl, inX1, by decide, gm1 85 rfl rfl⟩
theorem w_154 (nm : String) : ev_okW tbs "EnclaveMonitor" nm 1 5 (.null) [] (.getfield 94) := ⟨_, rfl, inX1, by decide, gm1 87 rfl rfl⟩
theorem w_155 (nm : String) : ev_okW tbs "EnclaveMonitor" nm 1 6 (.null) [] (.getfield 70) := ⟨_, rfl, inX1, by decide, gm1 90 rfl rfl⟩
theorem w_156 (nm : String) : ev_okW tbs "EnclaveMonitor" nm 57 1 (.null) [4] (.invokevirtual 186) := ⟨_, 4, _, rfl, rfl, rfl, rfl, ⟨Or.inl (gm2 42 rfl rfl), gm1 1 rfl rfl, gm2 45 rfl rfl, ⟨by decide +kernel, by decide +kernel, by decide +kernel⟩, by decide⟩, gm2 44 rfl rfl, gm0 10 rfl rfl⟩
theorem w_157 (nm : String) : ev_okW tbs "EnclaveMonitor" nm 12 0 (.null) [1] (.invokevirtual 189) := ⟨_, 1, _, rfl, rfl, rfl, rfl, ⟨Or.inl (gm2 58 rfl rfl), gm1 4 rfl rfl, gm2 61 rfl rfl, ⟨by decide +kernel, by decide +kernel, by decide +kernel⟩, by decide⟩, gm2 59 rfl rfl, gm2 60 rfl rfl⟩
theorem w_158 (nm : String) : ev_okW tbs "EnclaveMonitor" nm 14 1 (.null) [1] (.invokevirtual 193) := ⟨_, 1, _, rfl, rfl, rfl, rfl, ⟨Or.inl (gm2 115 rfl rfl), gm1 4 rfl rfl, gm2 118 rfl rfl, ⟨by decide +kernel, by decide +kernel, by decide +kernel⟩, by decide⟩, gm2 116 rfl rfl, gm2 117 rfl rfl⟩
theorem w_159 (nm : String) : ev_okW tbs "EnclaveMonitor" nm 56 1 (.null) [4] (.invokevirtual 197) := ⟨_, 4, _, rfl, rfl, rfl, rfl, ⟨Or.inl (gm2 194 rfl rfl), gm1 1 rfl rfl, gm2 197 rfl rfl, ⟨by decide +kernel, by decide +kernel, by decide +kernel⟩, by decide⟩, gm2 196 rfl rfl, gm0 26 rfl rfl⟩
theorem w_160 (nm : String) : ev_okW tbs "EnclaveMonitor" nm 1 7 (.null) [] (.getfield 67) := ⟨_, rfl, inX1, by decide, gm1 92 rfl rfl⟩
theorem w_161 (nm : String) : ev_okW tbs "EnclaveMonitor" nm 13 1 (.null) [1] (.invokevirtual 200) := ⟨_, 1, _, rfl, rfl, rfl, rfl, ⟨Or.inl (gm2 17 rfl rfl), gm1 4 rfl rfl, gm2 20 rfl rfl, ⟨by decide +kernel, by decide +kernel, by decide +kernel⟩, by decide⟩, gm2 18 rfl rfl, gm2 19 rfl rfl⟩
theorem w_162 (nm : String) : ev_okW tbs "EnclaveMonitor" nm 18 2 (.null) [2] (.invokevirtual 203) := ⟨_, 2, _, rfl, rfl, rfl, rfl, ⟨Or.inl (gm2 66 rfl rfl), gm1 3 rfl rfl, gm2 69 rfl rfl, ⟨by decide +kernel, by decide +kernel, by decide +kernel⟩, by decide⟩, gm2 67 rfl rfl, gm2 68 rfl rfl⟩
theorem w_163 (nm : String) : ev_okW tbs "EnclaveMonitor" nm 19 3 (.null) [2] (.invokevirtual 207) := ⟨_, 2, _, rfl, rfl, rfl, rfl, ⟨Or.inl (gm2 72 rfl rfl), gm1 3 rfl rfl, gm2 75 rfl rfl, ⟨by decide +kernel, by decide +kernel, by decide +kernel⟩, by decide⟩, gm2 73 rfl rfl, gm2 74 rfl rfl⟩
theorem w_164 (nm : String) : ev_okW tbs "EnclaveMonitor" nm 66 0 (.null) [4] (.invokevirtual 211) := ⟨_, 4, _, rfl, rfl, rfl, rfl, ⟨Or.inl (gm2 169 rfl rfl), gm1 1 rfl rfl, gm2 172 rfl rfl, ⟨by decide +kernel, by decide +kernel, by decide +kernel⟩, by decide⟩, gm2 171 rfl rfl, gm0 24 rfl rfl⟩
theorem w_165 (nm : String) : ev_okW tbs "EnclaveMonitor" nm 16 2 (.null) [] (.invokestatic 214) := ⟨_, rfl, ⟨Or.inl (gm2 173 rfl rfl), gm1 4 rfl rfl, gm2 122 rfl rfl, ⟨by decide +kernel, by decide +kernel, by decide +kernel⟩, by decide⟩, gm2 121 rfl rfl⟩
theorem w_166 (nm : String) : ev_okW tbs "EnclaveMonitor" nm 4 4 (.null) [] (.getfield 42) := ⟨_, rfl, inX4, by decide, gm1 180 rfl rfl⟩
theorem w_167 (nm : String) : ev_okW tbs "EnclaveMonitor" nm 4 2 (.null) [] (.getfield 13) := ⟨_, rfl, inX4, by decide, gm1 178 rfl rfl⟩
theorem w_168 (nm : String) : ev_okW tbs "EnclaveMonitor" nm 28 4 (.null) [3] (.invokevirtual 218) := ⟨_, 3, _, rfl, rfl, rfl, rfl, ⟨Or.inl (gm2 146 rfl rfl), gm1 5 rfl rfl, gm2 149 rfl rfl, ⟨by decide +kernel, by decide +kernel, by decide +kernel⟩, by decide⟩, gm2 147 rfl rfl, gm2 148 rfl rfl⟩
theorem w_169 (nm : String) : ev_okW tbs "EnclaveMonitor" nm 30 4 (.null) [3] (.invokevirtual 222) := ⟨_, 3, _, rfl, rfl, rfl, rfl, ⟨Or.inl (gm2 128 rfl rfl), gm1 5 rfl rfl, gm2 131 rfl rfl, ⟨by decide +kernel, by decide +kernel, by decide +kernel⟩, by decide⟩, gm2 129 rfl rfl, gm2 130 rfl rfl⟩
theorem w_170 (nm : String) : ev_okW tbs "EnclaveMonitorModel" nm 1000 0 (.null) [] (.invokespecial 1) := gm3 47 rfl rfl
theorem w_171 : ev_okW tbs "EnclaveMonitorModel" "<init>" 5 2 (.null) [] (.putfield 9) := ⟨_, tyX5, rfl, inX5, by decide, gm3 66 rfl rfl, tyX5_ok, nmX5, rfl, Or.inr ⟨rfl, rfl, rfl⟩⟩
theorem w_172 : ev_okW tbs "EnclaveMonitorModel" "<init>" 5 3 (.null) [] (.putfield 13) := ⟨_, tyX5, rfl, inX5, by decide, gm3 67 rfl rfl, tyX5_ok, nmX5, rfl, Or.inr ⟨rfl, rfl, rfl⟩⟩
theorem w_173 : ev_okW tbs "EnclaveMonitorModel" "<init>" 5 4 (.null) [] (.putfield 16) := ⟨_, tyX5, rfl, inX5, by decide, gm3 68 rfl rfl, tyX5_ok, nmX5, rfl, Or.inr ⟨rfl, rfl, rfl⟩⟩
theorem w_174 : ev_okW tbs "EnclaveMonitorModel" "<init>" 5 5 (.null) [] (.putfield 19) := ⟨_, tyX5, rfl, inX5, by decide, gm3 69 rfl rfl, tyX5_ok, nmX5, rfl, Or.inr ⟨rfl, rfl, rfl⟩⟩
theorem w_175 : ev_okW tbs "EnclaveMonitorModel" "<init>" 5 6 (.null) [] (.putfield 22) := ⟨_, tyX5, rfl, inX5, by decide, gm3 70 rfl rfl, tyX5_ok, nmX5, rfl, Or.inr ⟨rfl, rfl, rfl⟩⟩
theorem w_176 : ev_okW tbs "EnclaveMonitorModel" "<init>" 5 7 (.null) [] (.putfield 25) := ⟨_, tyX5, rfl, inX5, by decide, gm3 71 rfl rfl, tyX5_ok, nmX5, rfl, Or.inr ⟨rfl, rfl, rfl⟩⟩
theorem w_177 : ev_okW tbs "EnclaveMonitorModel" "<init>" 5 8 (.null) [] (.putfield 28) := ⟨_, tyX5, rfl, inX5, by decide, gm3 72 rfl rfl, tyX5_ok, nmX5, rfl, Or.inr ⟨rfl, rfl, rfl⟩⟩
theorem w_178 : ev_okW tbs "EnclaveMonitorModel" "<init>" 5 9 (.null) [] (.putfield 31) := ⟨_, tyX5, rfl, inX5, by decide, gm3 73 rfl rfl, tyX5_ok, nmX5, rfl, Or.inr ⟨rfl, rfl, rfl⟩⟩
theorem w_179 : ev_okW tbs "EnclaveMonitorModel" "<init>" 5 10 (.null) [] (.putfield 34) := ⟨_, tyX5, rfl, inX5, by decide, gm3 74 rfl rfl, tyX5_ok, nmX5, rfl, Or.inr ⟨rfl, rfl, rfl⟩⟩
theorem w_180 : ev_okW tbs "EnclaveMonitorModel" "<init>" 5 11 (.null) [] (.putfield 37) := ⟨_, tyX5, rfl, inX5, by decide, gm3 75 rfl rfl, tyX5_ok, nmX5, rfl, Or.inr ⟨rfl, rfl, rfl⟩⟩
theorem w_181 : ev_okW tbs "EnclaveMonitorModel" "<init>" 5 12 (.null) [] (.putfield 40) := ⟨_, tyX5, rfl, inX5, by decide, gm3 76 rfl rfl, tyX5_ok, nmX5, rfl, Or.inr ⟨rfl, rfl, rfl⟩⟩
theorem w_182 : ev_okW tbs "EnclaveMonitorModel" "<init>" 5 18 (.null) [] (.putfield 43) := ⟨_, tyX5, rfl, inX5, by decide, gm3 82 rfl rfl, tyX5_ok, nmX5, rfl, Or.inr ⟨rfl, rfl, rfl⟩⟩
theorem w_183 : ev_okW tbs "EnclaveMonitorModel" "<init>" 5 19 (.null) [] (.putfield 46) := ⟨_, tyX5, rfl, inX5, by decide, gm3 83 rfl rfl, tyX5_ok, nmX5, rfl, Or.inr ⟨rfl, rfl, rfl⟩⟩
theorem w_184 : ev_okW tbs "EnclaveMonitorModel" "<init>" 5 20 (.null) [] (.putfield 49) := ⟨_, tyX5, rfl, inX5, by decide, gm3 84 rfl rfl, tyX5_ok, nmX5, rfl, Or.inr ⟨rfl, rfl, rfl⟩⟩
theorem w_185 : ev_okW tbs "EnclaveMonitorModel" "<init>" 5 21 (.null) [] (.putfield 52) := ⟨_, tyX5, rfl, inX5, by decide, gm3 85 rfl rfl, tyX5_ok, nmX5, rfl, Or.inr ⟨rfl, rfl, rfl⟩⟩
theorem w_186 : ev_okW tbs "EnclaveMonitorModel" "<init>" 5 22 (.null) [] (.putfield 55) := ⟨_, tyX5, rfl, inX5, by decide, gm3 86 rfl rfl, tyX5_ok, nmX5, rfl, Or.inr ⟨rfl, rfl, rfl⟩⟩
theorem w_187 : ev_okW tbs "EnclaveMonitorModel" "<init>" 5 23 (.null) [] (.putfield 58) := ⟨_, tyX5, rfl, inX5, by decide, gm3 87 rfl rfl, tyX5_ok, nmX5, rfl, Or.inr ⟨rfl, rfl, rfl⟩⟩
theorem w_188 : ev_okW tbs "EnclaveMonitorModel" "<init>" 5 24 (.null) [] (.putfield 61) := ⟨_, tyX5, rfl, inX5, by decide, gm3 88 rfl rfl, tyX5_ok, nmX5, rfl, Or.inr ⟨rfl, rfl, rfl⟩⟩
theorem w_189 : ev_okW tbs "EnclaveMonitorModel" "<init>" 5 27 (.int 0) [] (.putfield 64) := ⟨_, tyX5, rfl, inX5, by decide, gm3 91 rfl rfl, tyX5_ok, nmX5, rfl, Or.inl rfl⟩
theorem w_190 : ev_okW tbs "EnclaveMonitorModel" "<init>" 5 29 (.int 0) [] (.putfield 68) := ⟨_, tyX5, rfl, inX5, by decide, gm3 93 rfl rfl, tyX5_ok, nmX5, rfl, Or.inl rfl⟩
theorem w_191 : ev_okW tbs "EnclaveMonitorModel" "<init>" 5 1 (.int 0) [] (.putfield 71) := ⟨_, tyX5, rfl, inX5, by decide, gm3 65 rfl rfl, tyX5_ok, nmX5, rfl, Or.inr ⟨rfl, rfl, rfl⟩⟩
theorem w_192 (nm : String) : ev_okW tbs "EnclaveMonitorModel" nm 5 3 (.null) [] (.getfield 13) := ⟨_, rfl, inX5, by decide, gm3 67 rfl rfl⟩
theorem w_193 (nm : String) : ev_okW tbs "EnclaveMonitorModel" nm 5 18 (.null) [] (.getfield 43) := ⟨_, rfl, inX5, by decide, gm3 82 rfl rfl⟩
theorem w_194 (nm : String) : ev_okW tbs "EnclaveMonitorModel" nm 72 1 (.null) [5] (.invokevirtual 74) := ⟨_, 5, _, rfl, rfl, rfl, rfl, ⟨Or.inl (gm3 48 rfl rfl), gm1 7 rfl rfl, gm3 51 rfl rfl, ⟨by decide +kernel, by decide +kernel, by decide +kernel⟩, by decide⟩, gm3 50 rfl rfl, gm0 28 rfl rfl⟩
theorem w_195 (nm : String) : ev_okW tbs "EnclaveMonitorModel" nm 5 11 (.null) [] (.getfield 37) := ⟨_, rfl, inX5, by decide, gm3 75 rfl rfl⟩
theorem w_196 (nm : String) : ev_okW tbs "EnclaveMonitorModel" nm 5 19 (.null) [] (.getfield 46) := ⟨_, rfl, inX5, by decide, gm3 83 rfl rfl⟩
theorem w_197 (nm : String) : ev_okW tbs "EnclaveMonitorModel" nm 5 12 (.null) [] (.getfield 40) := ⟨_, rfl, inX5, by decide, gm3 76 rfl rfl⟩
theorem w_198 (nm : String) : ev_okW tbs "EnclaveMonitorModel" nm 5 0 (.null) [] (.getfield 78) := ⟨_, rfl, inX5, by decide, gm3 64 rfl rfl⟩
theorem w_199 (nm : String) : ev_okW tbs "EnclaveMonitorModel" nm 0 0 (.int (-2147483648)) [] (.ldc 81) := ⟨_, rfl, gm3 52 rfl rfl⟩
theorem w_200 (nm : String) : ev_okW tbs "EnclaveMonitorModel" nm 3 0 (.null) [] (.getstatic 82) := ⟨_, rfl, gm3 53 rfl rfl⟩
theorem w_201 (nm : String) : ev_okW tbs "EnclaveMonitorModel" nm 73 1 (.null) [5] (.invokevirtual 85) := ⟨_, 5, _, rfl, rfl, rfl, rfl, ⟨Or.inl (gm3 55 rfl rfl), gm1 7 rfl rfl, gm3 58 rfl rfl, ⟨by decide +kernel, by decide +kernel, by decide +kernel⟩, by decide⟩, gm3 57 rfl rfl, gm0 29 rfl rfl⟩
theorem w_202 (nm : String) : ev_okW tbs "EnclaveMonitorModel" nm 5 20 (.null) [] (.getfield 49) := ⟨_, rfl, inX5, by decide, gm3 84 rfl rfl⟩
theorem w_203 (nm : String) : ev_okW tbs "EnclaveMonitorModel" nm 71 2 (.null) [] (.invokestatic 88) := ⟨_, rfl, ⟨Or.inl (gm3 59 rfl rfl), gm1 7 rfl rfl, gm3 61 rfl rfl, ⟨by decide +kernel, by decide +kernel, by decide +kernel⟩, by decide⟩, gm3 60 rfl rfl⟩
theorem w_204 (nm : String) : ev_okW tbs "EnclaveMonitorModel" nm 5 21 (.null) [] (.getfield 52) := ⟨_, rfl, inX5, by decide, gm3 85 rfl rfl⟩
theorem w_205 (nm : String) : ev_okW tbs "EnclaveMonitorModel" nm 4 0 (.null) [] (.getstatic 92) := ⟨_, rfl, gm3 62 rfl rfl⟩
theorem w_206 (nm : String) : ev_okW tbs "EnclaveMonitorModel" nm 0 0 (.int (909522486)) [] (.ldc 95) := ⟨_, rfl, gm4 28 rfl rfl⟩
theorem w_207 (nm : String) : ev_okW tbs "EnclaveMonitorModel" nm 5 10 (.null) [] (.getfield 34) := ⟨_, rfl, inX5, by decide, gm3 74 rfl rfl⟩
theorem w_208 (nm : String) : ev_okW tbs "EnclaveMonitorModel" nm 0 0 (.int (1549556828)) [] (.ldc 96) := ⟨_, rfl, gm4 29 rfl rfl⟩
theorem w_209 (nm : String) : ev_okW tbs "EnclaveMonitorModel" nm 5 23 (.null) [] (.getfield 58) := ⟨_, rfl, inX5, by decide, gm3 87 rfl rfl⟩
theorem w_210 (nm : String) : ev_okW tbs "EnclaveMonitorModel" nm 5 22 (.null) [] (.getfield 55) := ⟨_, rfl, inX5, by decide, gm3 86 rfl rfl⟩
theorem w_211 (nm : String) : ev_okW tbs "EnclaveMonitorModel" nm 0 0 (.int (1634760805)) [] (.ldc 97) := ⟨_, rfl, gm4 16 rfl rfl⟩
theorem w_212 (nm : String) : ev_okW tbs "EnclaveMonitorModel" nm 0 0 (.int (857760878)) [] (.ldc 98) := ⟨_, rfl, gm4 17 rfl rfl⟩
theorem w_213 (nm : String) : ev_okW tbs "EnclaveMonitorModel" nm 0 0 (.int (2036477234)) [] (.ldc 99) := ⟨_, rfl, gm4 18 rfl rfl⟩
theorem w_214 (nm : String) : ev_okW tbs "EnclaveMonitorModel" nm 0 0 (.int (1797285236)) [] (.ldc 100) := ⟨_, rfl, gm4 19 rfl rfl⟩
theorem w_215 (nm : String) : ev_okW tbs "EnclaveMonitorModel" nm 75 4 (.null) [5] (.invokevirtual 101) := ⟨_, 5, _, rfl, rfl, rfl, rfl, ⟨Or.inl (gm4 20 rfl rfl), gm1 7 rfl rfl, gm4 23 rfl rfl, ⟨by decide +kernel, by decide +kernel, by decide +kernel⟩, by decide⟩, gm4 22 rfl rfl, gm0 41 rfl rfl⟩
theorem w_216 (nm : String) : ev_okW tbs "EnclaveMonitorModel" nm 76 3 (.null) [5] (.invokevirtual 105) := ⟨_, 5, _, rfl, rfl, rfl, rfl, ⟨Or.inl (gm4 12 rfl rfl), gm1 7 rfl rfl, gm4 15 rfl rfl, ⟨by decide +kernel, by decide +kernel, by decide +kernel⟩, by decide⟩, gm4 14 rfl rfl, gm0 40 rfl rfl⟩
theorem w_217 (nm : String) : ev_okW tbs "EnclaveMonitorModel" nm 5 1 (.null) [] (.getfield 71) := ⟨_, rfl, inX5, by decide, gm3 65 rfl rfl⟩
theorem w_218 (nm : String) : ev_okW tbs "EnclaveMonitorModel" nm 5 2 (.null) [] (.getfield 9) := ⟨_, rfl, inX5, by decide, gm3 66 rfl rfl⟩
theorem w_219 (nm : String) : ev_okW tbs "EnclaveMonitorModel" nm 5 4 (.null) [] (.getfield 16) := ⟨_, rfl, inX5, by decide, gm3 68 rfl rfl⟩
theorem w_220 (nm : String) : ev_okW tbs "EnclaveMonitorModel" nm 5 5 (.null) [] (.getfield 19) := ⟨_, rfl, inX5, by decide, gm3 69 rfl rfl⟩
theorem w_221 (nm : String) : ev_okW tbs "EnclaveMonitorModel" nm 5 6 (.null) [] (.getfield 22) := ⟨_, rfl, inX5, by decide, gm3 70 rfl rfl⟩
theorem w_222 (nm : String) : ev_okW tbs "EnclaveMonitorModel" nm 5 7 (.null) [] (.getfield 25) := ⟨_, rfl, inX5, by decide, gm3 71 rfl rfl⟩
theorem w_223 (nm : String) : ev_okW tbs "EnclaveMonitorModel" nm 5 8 (.null) [] (.getfield 28) := ⟨_, rfl, inX5, by decide, gm3 72 rfl rfl⟩
theorem w_224 (nm : String) : ev_okW tbs "EnclaveMonitorModel" nm 5 9 (.null) [] (.getfield 31) := ⟨_, rfl, inX5, by decide, gm3 73 rfl rfl⟩
theorem w_225 (nm : String) : ev_okW tbs "EnclaveMonitorModel" nm 5 0 (.int 0) [] (.putfield 78) := ⟨_, tyX5, rfl, inX5, by decide, gm3 64 rfl rfl, tyX5_ok, nmX5, rfl, Or.inl rfl⟩
theorem w_226 (nm : String) : ev_okW tbs "EnclaveMonitorModel" nm 78 2 (.null) [5] (.invokevirtual 108) := ⟨_, 5, _, rfl, rfl, rfl, rfl, ⟨Or.inl (gm3 171 rfl rfl), gm1 7 rfl rfl, gm3 174 rfl rfl, ⟨by decide +kernel, by decide +kernel, by decide +kernel⟩, by decide⟩, gm3 173 rfl rfl, gm0 30 rfl rfl⟩
theorem w_227 (nm : String) : ev_okW tbs "EnclaveMonitorModel" nm 80 2 (.null) [5] (.invokevirtual 112) := ⟨_, 5, _, rfl, rfl, rfl, rfl, ⟨Or.inl (gm3 175 rfl rfl), gm1 7 rfl rfl, gm3 178 rfl rfl, ⟨by decide +kernel, by decide +kernel, by decide +kernel⟩, by decide⟩, gm3 177 rfl rfl, gm0 31 rfl rfl⟩
theorem w_228 (nm : String) : ev_okW tbs "EnclaveMonitorModel" nm 5 13 (.null) [] (.getfield 116) := ⟨_, rfl, inX5, by decide, gm3 77 rfl rfl⟩
theorem w_229 (nm : String) : ev_okW tbs "EnclaveMonitorModel" nm 5 13 (.int 0) [] (.putfield 116) := ⟨_, tyX5, rfl, inX5, by decide, gm3 77 rfl rfl, tyX5_ok, nmX5, rfl, Or.inl rfl⟩
theorem w_230 (nm : String) : ev_okW tbs "EnclaveMonitorModel" nm 84 3 (.null) [5] (.invokevirtual 119) := ⟨_, 5, _, rfl, rfl, rfl, rfl, ⟨Or.inl (gm3 183 rfl rfl), gm1 7 rfl rfl, gm3 186 rfl rfl, ⟨by decide +kernel, by decide +kernel, by decide +kernel⟩, by decide⟩, gm3 185 rfl rfl, gm0 32 rfl rfl⟩
theorem w_231 (nm : String) : ev_okW tbs "EnclaveMonitorModel" nm 86 2 (.null) [5] (.invokevirtual 122) := ⟨_, 5, _, rfl, rfl, rfl, rfl, ⟨Or.inl (gm3 191 rfl rfl), gm1 7 rfl rfl, gm3 194 rfl rfl, ⟨by decide +kernel, by decide +kernel, by decide +kernel⟩, by decide⟩, gm3 193 rfl rfl, gm0 33 rfl rfl⟩
theorem w_232 (nm : String) : ev_okW tbs "EnclaveMonitorModel" nm 79 1 (.null) [5] (.invokevirtual 125) := ⟨_, 5, _, rfl, rfl, rfl, rfl, ⟨Or.inl (gm3 211 rfl rfl), gm1 7 rfl rfl, gm3 214 rfl rfl, ⟨by decide +kernel, by decide +kernel, by decide +kernel⟩, by decide⟩, gm3 213 rfl rfl, gm0 34 rfl rfl⟩
theorem w_233 (nm : String) : ev_okW tbs "EnclaveMonitorModel" nm 5 24 (.null) [] (.getfield 61) := ⟨_, rfl, inX5, by decide, gm3 88 rfl rfl⟩
theorem w_234 (nm : String) : ev_okW tbs "EnclaveMonitorModel" nm 5 25 (.int 0) [] (.putfield 129) := ⟨_, tyX5, rfl, inX5, by decide, gm3 89 rfl rfl, tyX5_ok, nmX5, rfl, Or.inl rfl⟩
theorem w_235 (nm : String) : ev_okW tbs "EnclaveMonitorModel" nm 94 2 (.null) [5] (.invokevirtual 132) := ⟨_, 5, _, rfl, rfl, rfl, rfl, ⟨Or.inl (gm3 219 rfl rfl), gm1 7 rfl rfl, gm3 222 rfl rfl, ⟨by decide +kernel, by decide +kernel, by decide +kernel⟩, by decide⟩, gm3 221 rfl rfl, gm0 35 rfl rfl⟩
theorem w_236 (nm : String) : ev_okW tbs "EnclaveMonitorModel" nm 5 26 (.int 0) [] (.putfield 135) := ⟨_, tyX5, rfl, inX5, by decide, gm3 90 rfl rfl, tyX5_ok, nmX5, rfl, Or.inl rfl⟩
theorem w_237 (nm : String) : ev_okW tbs "EnclaveMonitorModel" nm 5 28 (.int 0) [] (.putfield 138) := ⟨_, tyX5, rfl, inX5, by decide, gm3 92 rfl rfl, tyX5_ok, nmX5, rfl, Or.inl rfl⟩
theorem w_238 (nm : String) : ev_okW tbs "EnclaveMonitorModel" nm 5 29 (.int 0) [] (.putfield 68) := ⟨_, tyX5, rfl, inX5, by decide, gm3 93 rfl rfl, tyX5_ok, nmX5, rfl, Or.inl rfl⟩
theorem w_239 (nm : String) : ev_okW tbs "EnclaveMonitorModel" nm 5 27 (.int 0) [] (.putfield 64) := ⟨_, tyX5, rfl, inX5, by decide, gm3 91 rfl rfl, tyX5_ok, nmX5, rfl, Or.inl rfl⟩
theorem w_240 (nm : String) : ev_okW tbs "EnclaveMonitorModel" nm 5 27 (.null) [] (.getfield 64) := ⟨_, rfl, inX5, by decide, gm3 91 rfl rfl⟩
theorem w_241 (nm : String) : ev_okW tbs "EnclaveMonitorModel" nm 5 26 (.null) [] (.getfield 135) := ⟨_, rfl, inX5, by decide, gm3 90 rfl rfl⟩
theorem w_242 (nm : String) : ev_okW tbs "EnclaveMonitorModel" nm 96 1 (.null) [5] (.invokevirtual 141) := ⟨_, 5, _, rfl, rfl, rfl, rfl, ⟨Or.inl (gm3 223 rfl rfl), gm1 7 rfl rfl, gm3 226 rfl rfl, ⟨by decide +kernel, by decide +kernel, by decide +kernel⟩, by decide⟩, gm3 225 rfl rfl, gm0 36 rfl rfl⟩
theorem w_243 (nm : String) : ev_okW tbs "EnclaveMonitorModel" nm 5 25 (.null) [] (.getfield 129) := ⟨_, rfl, inX5, by decide, gm3 89 rfl rfl⟩
theorem w_244 (nm : String) : ev_okW tbs "EnclaveMonitorModel" nm 95 3 (.null) [5] (.invokevirtual 144) := ⟨_, 5, _, rfl, rfl, rfl, rfl, ⟨Or.inl (gm3 227 rfl rfl), gm1 7 rfl rfl, gm3 230 rfl rfl, ⟨by decide +kernel, by decide +kernel, by decide +kernel⟩, by decide⟩, gm3 229 rfl rfl, gm0 37 rfl rfl⟩
theorem w_245 (nm : String) : ev_okW tbs "EnclaveMonitorModel" nm 5 28 (.null) [] (.getfield 138) := ⟨_, rfl, inX5, by decide, gm3 92 rfl rfl⟩
theorem w_246 (nm : String) : ev_okW tbs "EnclaveMonitorModel" nm 5 29 (.null) [] (.getfield 68) := ⟨_, rfl, inX5, by decide, gm3 93 rfl rfl⟩
theorem w_247 (nm : String) : ev_okW tbs "EnclaveMonitorModel" nm 0 0 (.long (4294967295)) [] (.ldc2_w 148) := ⟨_, rfl, gm4 7 rfl rfl⟩
theorem w_248 (nm : String) : ev_okW tbs "EnclaveMonitorModel" nm 98 2 (.null) [5] (.invokevirtual 150) := ⟨_, 5, _, rfl, rfl, rfl, rfl, ⟨Or.inl (gm4 3 rfl rfl), gm1 7 rfl rfl, gm4 6 rfl rfl, ⟨by decide +kernel, by decide +kernel, by decide +kernel⟩, by decide⟩, gm4 5 rfl rfl, gm0 38 rfl rfl⟩
theorem w_249 (nm : String) : ev_okW tbs "EnclaveMonitorModel" nm 5 17 (.null) [] (.getfield 154) := ⟨_, rfl, inX5, by decide, gm3 81 rfl rfl⟩
theorem w_250 (nm : String) : ev_okW tbs "EnclaveMonitorModel" nm 5 17 (.long 0) [] (.putfield 154) := ⟨_, tyX5, rfl, inX5, by decide, gm3 81 rfl rfl, tyX5_ok, nmX5, rfl, Or.inl rfl⟩
theorem w_251 (nm : String) : ev_okW tbs "EnclaveMonitorModel" nm 77 4 (.null) [5] (.invokevirtual 158) := ⟨_, 5, _, rfl, rfl, rfl, rfl, ⟨Or.inl (gm4 8 rfl rfl), gm1 7 rfl rfl, gm4 11 rfl rfl, ⟨by decide +kernel, by decide +kernel, by decide +kernel⟩, by decide⟩, gm4 10 rfl rfl, gm0 39 rfl rfl⟩
theorem w_252 (nm : String) : ev_okW tbs "EnclaveMonitorModel" nm 74 0 (.null) [5] (.invokevirtual 162) := ⟨_, 5, _, rfl, rfl, rfl, rfl, ⟨Or.inl (gm4 24 rfl rfl), gm1 7 rfl rfl, gm4 27 rfl rfl, ⟨by decide +kernel, by decide +kernel, by decide +kernel⟩, by decide⟩, gm4 26 rfl rfl, gm0 42 rfl rfl⟩
theorem w_253 (nm : String) : ev_okW tbs "EnclaveMonitorModel" nm 99 3 (.null) [5] (.invokevirtual 165) := ⟨_, 5, _, rfl, rfl, rfl, rfl, ⟨Or.inl (gm4 30 rfl rfl), gm1 7 rfl rfl, gm4 33 rfl rfl, ⟨by decide +kernel, by decide +kernel, by decide +kernel⟩, by decide⟩, gm4 32 rfl rfl, gm0 43 rfl rfl⟩
theorem w_254 (nm : String) : ev_okW tbs "EnclaveMonitorModel" nm 5 14 (.null) [] (.getfield 169) := ⟨_, rfl, inX5, by decide, gm3 78 rfl rfl⟩
theorem w_255 (nm : String) : ev_okW tbs "EnclaveMonitorModel" nm 5 14 (.int 0) [] (.putfield 169) := ⟨_, tyX5, rfl, inX5, by decide, gm3 78 rfl rfl, tyX5_ok, nmX5, rfl, Or.inl rfl⟩
theorem w_256 (nm : String) : ev_okW tbs "EnclaveMonitorModel" nm 5 15 (.null) [] (.getfield 172) := ⟨_, rfl, inX5, by decide, gm3 79 rfl rfl⟩
theorem w_257 (nm : String) : ev_okW tbs "EnclaveMonitorModel" nm 5 15 (.int 0) [] (.putfield 172) := ⟨_, tyX5, rfl, inX5, by decide, gm3 79 rfl rfl, tyX5_ok, nmX5, rfl, Or.inl rfl⟩
theorem w_258 (nm : String) : ev_okW tbs "EnclaveMonitorModel" nm 5 16 (.null) [] (.getfield 175) := ⟨_, rfl, inX5, by decide, gm3 80 rfl rfl⟩
theorem w_259 (nm : String) : ev_okW tbs "EnclaveMonitorModel" nm 5 16 (.int 0) [] (.putfield 175) := ⟨_, tyX5, rfl, inX5, by decide, gm3 80 rfl rfl, tyX5_ok, nmX5, rfl, Or.inl rfl⟩
theorem w_260 (nm : String) : ev_okW tbs "EnclaveMonitorLaw" nm 4 11 (.null) [2, 2, 2, 2, 2, 2, 1, 0, 0, 0, 0] (.new 8) := ⟨_, tyX4, rfl, inX4, rfl, tyX4_ok, gm1 12 rfl rfl, gm1 13 rfl rfl, gm1 1 rfl rfl, rfl, by decide +kernel⟩
theorem w_261 (nm : String) : ev_okW tbs "EnclaveMonitorLaw" nm 106 2 (.null) [] (.invokestatic 19) := ⟨_, rfl, ⟨Or.inl (gm2 198 rfl rfl), gm1 0 rfl rfl, gm2 200 rfl rfl, ⟨by decide +kernel, by decide +kernel, by decide +kernel⟩, by decide⟩, gm2 199 rfl rfl⟩
theorem w_262 (nm : String) : ev_okW tbs "EnclaveMonitorLaw" nm 34 2 (.null) [] (.invokespecial 25) := ⟨_, rfl, ⟨Or.inl (gm1 14 rfl rfl), gm1 1 rfl rfl, gm1 16 rfl rfl, ⟨by decide +kernel, by decide +kernel, by decide +kernel⟩, by decide⟩, rfl, gm1 15 rfl rfl, rfl⟩
theorem w_263 (nm : String) : ev_okW tbs "EnclaveMonitorLaw" nm 5 30 (.null) [0, 0, 2, 2, 2, 2, 2, 2, 2, 2, 2, 2, 2, 0, 0, 0, 0, 1, 2, 2, 2, 2, 2, 2, 2, 0, 0, 0, 0, 0] (.new 28) := ⟨_, tyX5, rfl, inX5, rfl, tyX5_ok, gm3 42 rfl rfl, gm3 43 rfl rfl, gm1 7 rfl rfl, rfl, by decide +kernel⟩
theorem w_264 (nm : String) : ev_okW tbs "EnclaveMonitorLaw" nm 69 2 (.null) [] (.invokespecial 30) := ⟨_, rfl, ⟨Or.inl (gm3 44 rfl rfl), gm1 7 rfl rfl, gm3 46 rfl rfl, ⟨by decide +kernel, by decide +kernel, by decide +kernel⟩, by decide⟩, rfl, gm3 45 rfl rfl, rfl⟩
theorem w_265 (nm : String) : ev_okW tbs "EnclaveMonitorLaw" nm 81 2 (.null) [5] (.invokevirtual 34) := ⟨_, 5, _, rfl, rfl, rfl, rfl, ⟨Or.inl (gm3 159 rfl rfl), gm1 7 rfl rfl, gm3 162 rfl rfl, ⟨by decide +kernel, by decide +kernel, by decide +kernel⟩, by decide⟩, gm3 160 rfl rfl, gm3 161 rfl rfl⟩
theorem w_266 (nm : String) : ev_okW tbs "EnclaveMonitorLaw" nm 70 0 (.null) [5] (.invokevirtual 35) := ⟨_, 5, _, rfl, rfl, rfl, rfl, ⟨Or.inl (gm3 155 rfl rfl), gm1 7 rfl rfl, gm3 158 rfl rfl, ⟨by decide +kernel, by decide +kernel, by decide +kernel⟩, by decide⟩, gm3 156 rfl rfl, gm3 157 rfl rfl⟩
theorem w_267 (nm : String) : ev_okW tbs "EnclaveMonitorLaw" nm 82 1 (.null) [5] (.invokevirtual 42) := ⟨_, 5, _, rfl, rfl, rfl, rfl, ⟨Or.inl (gm3 163 rfl rfl), gm1 7 rfl rfl, gm3 166 rfl rfl, ⟨by decide +kernel, by decide +kernel, by decide +kernel⟩, by decide⟩, gm3 164 rfl rfl, gm3 165 rfl rfl⟩
theorem w_268 (nm : String) : ev_okW tbs "EnclaveMonitorLaw" nm 37 1 (.null) [4] (.invokevirtual 43) := ⟨_, 4, _, rfl, rfl, rfl, rfl, ⟨Or.inl (gm1 210 rfl rfl), gm1 1 rfl rfl, gm1 213 rfl rfl, ⟨by decide +kernel, by decide +kernel, by decide +kernel⟩, by decide⟩, gm1 211 rfl rfl, gm1 212 rfl rfl⟩
theorem w_269 (nm : String) : ev_okW tbs "EnclaveMonitorLaw" nm 83 1 (.null) [5] (.invokevirtual 46) := ⟨_, 5, _, rfl, rfl, rfl, rfl, ⟨Or.inl (gm3 167 rfl rfl), gm1 7 rfl rfl, gm3 170 rfl rfl, ⟨by decide +kernel, by decide +kernel, by decide +kernel⟩, by decide⟩, gm3 168 rfl rfl, gm3 169 rfl rfl⟩
theorem w_270 (nm : String) : ev_okW tbs "EnclaveMonitorLaw" nm 38 3 (.null) [4] (.invokevirtual 47) := ⟨_, 4, _, rfl, rfl, rfl, rfl, ⟨Or.inl (gm1 221 rfl rfl), gm1 1 rfl rfl, gm1 224 rfl rfl, ⟨by decide +kernel, by decide +kernel, by decide +kernel⟩, by decide⟩, gm1 222 rfl rfl, gm1 223 rfl rfl⟩
theorem w_271 (nm : String) : ev_okW tbs "EnclaveMonitorLaw" nm 85 3 (.null) [5] (.invokevirtual 51) := ⟨_, 5, _, rfl, rfl, rfl, rfl, ⟨Or.inl (gm3 179 rfl rfl), gm1 7 rfl rfl, gm3 182 rfl rfl, ⟨by decide +kernel, by decide +kernel, by decide +kernel⟩, by decide⟩, gm3 180 rfl rfl, gm3 181 rfl rfl⟩
theorem w_272 (nm : String) : ev_okW tbs "EnclaveMonitorLaw" nm 39 4 (.null) [4] (.invokevirtual 52) := ⟨_, 4, _, rfl, rfl, rfl, rfl, ⟨Or.inl (gm2 9 rfl rfl), gm1 1 rfl rfl, gm2 12 rfl rfl, ⟨by decide +kernel, by decide +kernel, by decide +kernel⟩, by decide⟩, gm2 10 rfl rfl, gm2 11 rfl rfl⟩
theorem w_273 (nm : String) : ev_okW tbs "EnclaveMonitorLaw" nm 87 4 (.null) [5] (.invokevirtual 56) := ⟨_, 5, _, rfl, rfl, rfl, rfl, ⟨Or.inl (gm3 187 rfl rfl), gm1 7 rfl rfl, gm3 190 rfl rfl, ⟨by decide +kernel, by decide +kernel, by decide +kernel⟩, by decide⟩, gm3 188 rfl rfl, gm3 189 rfl rfl⟩
theorem w_274 (nm : String) : ev_okW tbs "EnclaveMonitorLaw" nm 40 1 (.null) [4] (.invokevirtual 57) := ⟨_, 4, _, rfl, rfl, rfl, rfl, ⟨Or.inl (gm2 22 rfl rfl), gm1 1 rfl rfl, gm2 25 rfl rfl, ⟨by decide +kernel, by decide +kernel, by decide +kernel⟩, by decide⟩, gm2 23 rfl rfl, gm2 24 rfl rfl⟩
theorem w_275 (nm : String) : ev_okW tbs "EnclaveMonitorLaw" nm 88 1 (.null) [5] (.invokevirtual 60) := ⟨_, 5, _, rfl, rfl, rfl, rfl, ⟨Or.inl (gm3 195 rfl rfl), gm1 7 rfl rfl, gm3 198 rfl rfl, ⟨by decide +kernel, by decide +kernel, by decide +kernel⟩, by decide⟩, gm3 196 rfl rfl, gm3 197 rfl rfl⟩
theorem w_276 (nm : String) : ev_okW tbs "EnclaveMonitorLaw" nm 41 1 (.null) [4] (.invokevirtual 61) := ⟨_, 4, _, rfl, rfl, rfl, rfl, ⟨Or.inl (gm2 26 rfl rfl), gm1 1 rfl rfl, gm2 29 rfl rfl, ⟨by decide +kernel, by decide +kernel, by decide +kernel⟩, by decide⟩, gm2 27 rfl rfl, gm2 28 rfl rfl⟩
theorem w_277 (nm : String) : ev_okW tbs "EnclaveMonitorLaw" nm 89 1 (.null) [5] (.invokevirtual 64) := ⟨_, 5, _, rfl, rfl, rfl, rfl, ⟨Or.inl (gm3 199 rfl rfl), gm1 7 rfl rfl, gm3 202 rfl rfl, ⟨by decide +kernel, by decide +kernel, by decide +kernel⟩, by decide⟩, gm3 200 rfl rfl, gm3 201 rfl rfl⟩
theorem w_278 (nm : String) : ev_okW tbs "EnclaveMonitorLaw" nm 42 1 (.null) [4] (.invokevirtual 65) := ⟨_, 4, _, rfl, rfl, rfl, rfl, ⟨Or.inl (gm2 30 rfl rfl), gm1 1 rfl rfl, gm2 33 rfl rfl, ⟨by decide +kernel, by decide +kernel, by decide +kernel⟩, by decide⟩, gm2 31 rfl rfl, gm2 32 rfl rfl⟩
theorem w_279 (nm : String) : ev_okW tbs "EnclaveMonitorLaw" nm 90 1 (.null) [5] (.invokevirtual 68) := ⟨_, 5, _, rfl, rfl, rfl, rfl, ⟨Or.inl (gm3 203 rfl rfl), gm1 7 rfl rfl, gm3 206 rfl rfl, ⟨by decide +kernel, by decide +kernel, by decide +kernel⟩, by decide⟩, gm3 204 rfl rfl, gm3 205 rfl rfl⟩
theorem w_280 (nm : String) : ev_okW tbs "EnclaveMonitorLaw" nm 43 1 (.null) [4] (.invokevirtual 69) := ⟨_, 4, _, rfl, rfl, rfl, rfl, ⟨Or.inl (gm2 34 rfl rfl), gm1 1 rfl rfl, gm2 37 rfl rfl, ⟨by decide +kernel, by decide +kernel, by decide +kernel⟩, by decide⟩, gm2 35 rfl rfl, gm2 36 rfl rfl⟩
theorem w_281 (nm : String) : ev_okW tbs "EnclaveMonitorLaw" nm 91 1 (.null) [5] (.invokevirtual 72) := ⟨_, 5, _, rfl, rfl, rfl, rfl, ⟨Or.inl (gm3 207 rfl rfl), gm1 7 rfl rfl, gm3 210 rfl rfl, ⟨by decide +kernel, by decide +kernel, by decide +kernel⟩, by decide⟩, gm3 208 rfl rfl, gm3 209 rfl rfl⟩
theorem w_282 (nm : String) : ev_okW tbs "EnclaveMonitorLaw" nm 44 4 (.null) [4] (.invokevirtual 73) := ⟨_, 4, _, rfl, rfl, rfl, rfl, ⟨Or.inl (gm2 50 rfl rfl), gm1 1 rfl rfl, gm2 53 rfl rfl, ⟨by decide +kernel, by decide +kernel, by decide +kernel⟩, by decide⟩, gm2 51 rfl rfl, gm2 52 rfl rfl⟩
theorem w_283 (nm : String) : ev_okW tbs "EnclaveMonitorLaw" nm 92 4 (.null) [5] (.invokevirtual 76) := ⟨_, 5, _, rfl, rfl, rfl, rfl, ⟨Or.inl (gm3 215 rfl rfl), gm1 7 rfl rfl, gm3 218 rfl rfl, ⟨by decide +kernel, by decide +kernel, by decide +kernel⟩, by decide⟩, gm3 216 rfl rfl, gm3 217 rfl rfl⟩
theorem w_284 (nm : String) : ev_okW tbs "EnclaveMonitorLaw" nm 45 2 (.null) [4] (.invokevirtual 77) := ⟨_, 4, _, rfl, rfl, rfl, rfl, ⟨Or.inl (gm2 99 rfl rfl), gm1 1 rfl rfl, gm2 102 rfl rfl, ⟨by decide +kernel, by decide +kernel, by decide +kernel⟩, by decide⟩, gm2 100 rfl rfl, gm2 101 rfl rfl⟩
theorem w_285 (nm : String) : ev_okW tbs "EnclaveMonitorLaw" nm 93 2 (.null) [5] (.invokevirtual 81) := ⟨_, 5, _, rfl, rfl, rfl, rfl, ⟨Or.inl (gm3 231 rfl rfl), gm1 7 rfl rfl, gm3 234 rfl rfl, ⟨by decide +kernel, by decide +kernel, by decide +kernel⟩, by decide⟩, gm3 232 rfl rfl, gm3 233 rfl rfl⟩
theorem w_286 (nm : String) : ev_okW tbs "EnclaveMonitorLaw" nm 46 1 (.null) [4] (.invokevirtual 82) := ⟨_, 4, _, rfl, rfl, rfl, rfl, ⟨Or.inl (gm2 103 rfl rfl), gm1 1 rfl rfl, gm2 106 rfl rfl, ⟨by decide +kernel, by decide +kernel, by decide +kernel⟩, by decide⟩, gm2 104 rfl rfl, gm2 105 rfl rfl⟩
theorem w_287 (nm : String) : ev_okW tbs "EnclaveMonitorLaw" nm 97 1 (.null) [5] (.invokevirtual 85) := ⟨_, 5, _, rfl, rfl, rfl, rfl, ⟨Or.inl (gm3 235 rfl rfl), gm1 7 rfl rfl, gm3 238 rfl rfl, ⟨by decide +kernel, by decide +kernel, by decide +kernel⟩, by decide⟩, gm3 236 rfl rfl, gm3 237 rfl rfl⟩
theorem w_288 (nm : String) : ev_okW tbs "EnclaveMonitorLaw" nm 47 3 (.null) [4] (.invokevirtual 86) := ⟨_, 4, _, rfl, rfl, rfl, rfl, ⟨Or.inl (gm2 107 rfl rfl), gm1 1 rfl rfl, gm2 110 rfl rfl, ⟨by decide +kernel, by decide +kernel, by decide +kernel⟩, by decide⟩, gm2 108 rfl rfl, gm2 109 rfl rfl⟩
theorem w_289 (nm : String) : ev_okW tbs "EnclaveMonitorLaw" nm 100 3 (.null) [5] (.invokevirtual 89) := ⟨_, 5, _, rfl, rfl, rfl, rfl, ⟨Or.inl (gm3 239 rfl rfl), gm1 7 rfl rfl, gm4 2 rfl rfl, ⟨by decide +kernel, by decide +kernel, by decide +kernel⟩, by decide⟩, gm4 0 rfl rfl, gm4 1 rfl rfl⟩
theorem w_290 (nm : String) : ev_okW tbs "EnclaveMonitorLaw" nm 48 4 (.null) [4] (.invokevirtual 90) := ⟨_, 4, _, rfl, rfl, rfl, rfl, ⟨Or.inl (gm2 161 rfl rfl), gm1 1 rfl rfl, gm2 164 rfl rfl, ⟨by decide +kernel, by decide +kernel, by decide +kernel⟩, by decide⟩, gm2 162 rfl rfl, gm2 163 rfl rfl⟩
theorem w_291 (nm : String) : ev_okW tbs "EnclaveMonitorLaw" nm 101 4 (.null) [5] (.invokevirtual 93) := ⟨_, 5, _, rfl, rfl, rfl, rfl, ⟨Or.inl (gm4 34 rfl rfl), gm1 7 rfl rfl, gm4 37 rfl rfl, ⟨by decide +kernel, by decide +kernel, by decide +kernel⟩, by decide⟩, gm4 35 rfl rfl, gm4 36 rfl rfl⟩
theorem w_292 (nm : String) : ev_okW tbs "EnclaveMonitorLaw" nm 49 2 (.null) [4] (.invokevirtual 94) := ⟨_, 4, _, rfl, rfl, rfl, rfl, ⟨Or.inl (gm2 178 rfl rfl), gm1 1 rfl rfl, gm2 181 rfl rfl, ⟨by decide +kernel, by decide +kernel, by decide +kernel⟩, by decide⟩, gm2 179 rfl rfl, gm2 180 rfl rfl⟩
theorem w_293 (nm : String) : ev_okW tbs "EnclaveMonitorLaw" nm 102 2 (.null) [5] (.invokevirtual 97) := ⟨_, 5, _, rfl, rfl, rfl, rfl, ⟨Or.inl (gm4 38 rfl rfl), gm1 7 rfl rfl, gm4 41 rfl rfl, ⟨by decide +kernel, by decide +kernel, by decide +kernel⟩, by decide⟩, gm4 39 rfl rfl, gm4 40 rfl rfl⟩
theorem w_294 (nm : String) : ev_okW tbs "EnclaveMonitorLaw" nm 50 2 (.null) [4] (.invokevirtual 98) := ⟨_, 4, _, rfl, rfl, rfl, rfl, ⟨Or.inl (gm2 182 rfl rfl), gm1 1 rfl rfl, gm2 185 rfl rfl, ⟨by decide +kernel, by decide +kernel, by decide +kernel⟩, by decide⟩, gm2 183 rfl rfl, gm2 184 rfl rfl⟩
theorem w_295 (nm : String) : ev_okW tbs "EnclaveMonitorLaw" nm 103 2 (.null) [5] (.invokevirtual 101) := ⟨_, 5, _, rfl, rfl, rfl, rfl, ⟨Or.inl (gm4 42 rfl rfl), gm1 7 rfl rfl, gm4 45 rfl rfl, ⟨by decide +kernel, by decide +kernel, by decide +kernel⟩, by decide⟩, gm4 43 rfl rfl, gm4 44 rfl rfl⟩
theorem w_296 (nm : String) : ev_okW tbs "EnclaveMonitorLaw" nm 51 2 (.null) [4] (.invokevirtual 102) := ⟨_, 4, _, rfl, rfl, rfl, rfl, ⟨Or.inl (gm2 186 rfl rfl), gm1 1 rfl rfl, gm2 189 rfl rfl, ⟨by decide +kernel, by decide +kernel, by decide +kernel⟩, by decide⟩, gm2 187 rfl rfl, gm2 188 rfl rfl⟩
theorem w_297 (nm : String) : ev_okW tbs "EnclaveMonitorLaw" nm 104 2 (.null) [5] (.invokevirtual 106) := ⟨_, 5, _, rfl, rfl, rfl, rfl, ⟨Or.inl (gm4 46 rfl rfl), gm1 7 rfl rfl, gm4 49 rfl rfl, ⟨by decide +kernel, by decide +kernel, by decide +kernel⟩, by decide⟩, gm4 47 rfl rfl, gm4 48 rfl rfl⟩
theorem w_298 (nm : String) : ev_okW tbs "EnclaveMonitorLaw" nm 52 1 (.null) [4] (.invokevirtual 107) := ⟨_, 4, _, rfl, rfl, rfl, rfl, ⟨Or.inl (gm2 190 rfl rfl), gm1 1 rfl rfl, gm2 193 rfl rfl, ⟨by decide +kernel, by decide +kernel, by decide +kernel⟩, by decide⟩, gm2 191 rfl rfl, gm2 192 rfl rfl⟩
theorem w_299 (nm : String) : ev_okW tbs "EnclaveMonitorLaw" nm 105 1 (.null) [5] (.invokevirtual 110) := ⟨_, 5, _, rfl, rfl, rfl, rfl, ⟨Or.inl (gm4 50 rfl rfl), gm1 7 rfl rfl, gm4 53 rfl rfl, ⟨by decide +kernel, by decide +kernel, by decide +kernel⟩, by decide⟩, gm4 51 rfl rfl, gm4 52 rfl rfl⟩
end
section
set_option maxRecDepth 100000 in
theorem kb_X0_init : t_X0_init.2.all (fun q => ev_okB t_X0_init.1.2.2.1 q.1 q.2) = true := by decide +kernel
set_option maxRecDepth 100000 in
set_option maxHeartbeats 4000000 in
theorem kw_X0_init : ∀ q ∈ t_X0_init.2, ev_okW tbs t_X0_init.1.1 t_X0_init.1.2.1.name q.2.2.2.1 q.2.2.2.2.1 q.2.2.2.2.2.1 q.2.2.2.2.2.2 q.2.1 := List.forall_mem_cons.mpr ⟨trivial, List.forall_mem_cons.mpr ⟨w_0 _, List.forall_mem_cons.mpr ⟨trivial, List.forall_mem_cons.mpr ⟨trivial, List.forall_mem_cons.mpr ⟨trivial, List.forall_mem_cons.mpr ⟨w_1, List.forall_mem_cons.mpr ⟨trivial, List.forall_mem_cons.mpr ⟨trivial, List.forall_mem_cons.mpr ⟨trivial, List.forall_mem_cons.mpr ⟨w_2, List.forall_mem_cons.mpr ⟨trivial, List.forall_mem_cons.mpr ⟨trivial, List.forall_mem_cons.mpr ⟨trivial, List.forall_mem_cons.mpr ⟨w_3, List.forall_mem_cons.mpr ⟨trivial, fun _ h => absurd h List.not_mem_nil⟩⟩⟩⟩⟩⟩⟩⟩⟩⟩⟩⟩⟩⟩⟩
theorem ok_X0_init : ev_ok tbs t_X0_init := ⟨rfl, by decide +kernel, fun q hq => ⟨List.all_eq_true.mp kb_X0_init q hq, kw_X0_init q hq⟩⟩
set_option maxRecDepth 100000 in
theorem kb_X0_begin : t_X0_begin.2.all (fun q => ev_okB t_X0_begin.1.2.2.1 q.1 q.2) = true := by decide +kernel
set_option maxRecDepth 100000 in
set_option maxHeartbeats 4000000 in
theorem kw_X0_begin : ∀ q ∈ t_X0_begin.2, ev_okW tbs t_X0_begin.1.1 t_X0_begin.1.2.1.name q.2.2.2.1 q.2.2.2.2.1 q.2.2.2.2.2.1 q.2.2.2.2.2.2 q.2.1 := List.forall_mem_cons.mpr ⟨trivial, List.forall_mem_cons.mpr ⟨trivial, List.forall_mem_cons.mpr ⟨w_4 _, List.forall_mem_cons.mpr ⟨trivial, fun _ h => absurd h List.not_mem_nil⟩⟩⟩⟩
theorem ok_X0_begin : ev_ok tbs t_X0_begin := ⟨rfl, by decide +kernel, fun q hq => ⟨List.all_eq_true.mp kb_X0_begin q hq, kw_X0_begin q hq⟩⟩
set_option maxRecDepth 100000 in
theorem kb_X0_add : t_X0_add.2.all (fun q => ev_okB t_X0_add.1.2.2.1 q.1 q.2) = true := by decide +kernel
set_option maxRecDepth 100000 in
set_option maxHeartbeats 4000000 in
theorem kw_X0_add : ∀ q ∈ t_X0_add.2, ev_okW tbs t_X0_add.1.1 t_X0_add.1.2.1.name q.2.2.2.1 q.2.2.2.2.1 q.2.2.2.2.2.1 q.2.2.2.2.2.2 q.2.1 := List.forall_mem_cons.mpr ⟨trivial, List.forall_mem_cons.mpr ⟨w_5 _, List.forall_mem_cons.mpr ⟨trivial, List.forall_mem_cons.mpr ⟨trivial, List.forall_mem_cons.mpr ⟨trivial, List.forall_mem_cons.mpr ⟨w_6 _, List.forall_mem_cons.mpr ⟨trivial, List.forall_mem_cons.mpr ⟨w_5 _, List.forall_mem_cons.mpr ⟨trivial, List.forall_mem_cons.mpr ⟨trivial, List.forall_mem_cons.mpr ⟨trivial, List.forall_mem_cons.mpr ⟨trivial, List.forall_mem_cons.mpr ⟨w_5 _, List.forall_mem_cons.mpr ⟨trivial, List.forall_mem_cons.mpr ⟨trivial, List.forall_mem_cons.mpr ⟨w_4 _, List.forall_mem_cons.mpr ⟨trivial, fun _ h => absurd h List.not_mem_nil⟩⟩⟩⟩⟩⟩⟩⟩⟩⟩⟩⟩⟩⟩⟩⟩⟩
theorem ok_X0_add : ev_ok tbs t_X0_add := ⟨rfl, by decide +kernel, fun q hq => ⟨List.all_eq_true.mp kb_X0_add q hq, kw_X0_add q hq⟩⟩
set_option maxRecDepth 100000 in
theorem kb_X0_addAll : t_X0_addAll.2.all (fun q => ev_okB t_X0_addAll.1.2.2.1 q.1 q.2) = true := by decide +kernel
set_option maxRecDepth 100000 in
set_option maxHeartbeats 4000000 in
theorem kw_X0_addAll : ∀ q ∈ t_X0_addAll.2, ev_okW tbs t_X0_addAll.1.1 t_X0_addAll.1.2.1.name q.2.2.2.1 q.2.2.2.2.1 q.2.2.2.2.2.1 q.2.2.2.2.2.2 q.2.1 := List.forall_mem_cons.mpr ⟨trivial, List.forall_mem_cons.mpr ⟨trivial, List.forall_mem_cons.mpr ⟨trivial, List.forall_mem_cons.mpr ⟨trivial, List.forall_mem_cons.mpr ⟨trivial, List.forall_mem_cons.mpr ⟨trivial, List.forall_mem_cons.mpr ⟨trivial, List.forall_mem_cons.mpr ⟨trivial, List.forall_mem_cons.mpr ⟨trivial, List.forall_mem_cons.mpr ⟨w_7 _, List.forall_mem_cons.mpr ⟨trivial, List.forall_mem_cons.mpr ⟨trivial, List.forall_mem_cons.mpr ⟨trivial, fun _ h => absurd h List.not_mem_nil⟩⟩⟩⟩⟩⟩⟩⟩⟩⟩⟩⟩⟩
theorem ok_X0_addAll : ev_ok tbs t_X0_addAll := ⟨rfl, by decide +kernel, fun q hq => ⟨List.all_eq_true.mp kb_X0_addAll q hq, kw_X0_addAll q hq⟩⟩
set_option maxRecDepth 100000 in
theorem kb_X0_finish : t_X0_finish.2.all (fun q => ev_okB t_X0_finish.1.2.2.1 q.1 q.2) = true := by decide +kernel
set_option maxRecDepth 100000 in
set_option maxHeartbeats 4000000 in
theorem kw_X0_finish : ∀ q ∈ t_X0_finish.2, ev_okW tbs t_X0_finish.1.1 t_X0_finish.1.2.1.name q.2.2.2.1 q.2.2.2.2.1 q.2.2.2.2.2.1 q.2.2.2.2.2.2 q.2.1 := List.forall_mem_cons.mpr ⟨trivial, List.forall_mem_cons.mpr ⟨w_8 _, List.forall_mem_cons.mpr ⟨trivial, List.forall_mem_cons.mpr ⟨w_9 _, List.forall_mem_cons.mpr ⟨trivial, List.forall_mem_cons.mpr ⟨trivial, List.forall_mem_cons.mpr ⟨w_10 _, List.forall_mem_cons.mpr ⟨trivial, List.forall_mem_cons.mpr ⟨trivial, List.forall_mem_cons.mpr ⟨w_11 _, List.forall_mem_cons.mpr ⟨trivial, List.forall_mem_cons.mpr ⟨trivial, List.forall_mem_cons.mpr ⟨trivial, List.forall_mem_cons.mpr ⟨trivial, List.forall_mem_cons.mpr ⟨trivial, List.forall_mem_cons.mpr ⟨trivial, List.forall_mem_cons.mpr ⟨trivial, List.forall_mem_cons.mpr ⟨w_12 _, List.forall_mem_cons.mpr ⟨trivial, List.forall_mem_cons.mpr ⟨w_13 _, List.forall_mem_cons.mpr ⟨trivial, List.forall_mem_cons.mpr ⟨trivial, List.forall_mem_cons.mpr ⟨trivial, List.forall_mem_cons.mpr ⟨w_10 _, List.forall_mem_cons.mpr ⟨trivial, List.forall_mem_cons.mpr ⟨trivial, List.forall_mem_cons.mpr ⟨trivial, List.forall_mem_cons.mpr ⟨trivial, List.forall_mem_cons.mpr ⟨w_11 _, List.forall_mem_cons.mpr ⟨trivial, fun _ h => absurd h List.not_mem_nil⟩⟩⟩⟩⟩⟩⟩⟩⟩⟩⟩⟩⟩⟩⟩⟩⟩⟩⟩⟩⟩⟩⟩⟩⟩⟩⟩⟩⟩⟩
theorem ok_X0_finish : ev_ok tbs t_X0_finish := ⟨rfl, by decide +kernel, fun q hq => ⟨List.all_eq_true.mp kb_X0_finish q hq, kw_X0_finish q hq⟩⟩
set_option maxRecDepth 100000 in
theorem kb_X0_padMessage : t_X0_padMessage.2.all (fun q => ev_okB t_X0_padMessage.1.2.2.1 q.1 q.2) = true := by decide +kernel
set_option maxRecDepth 100000 in
set_option maxHeartbeats 4000000 in
theorem kw_X0_padMessage : ∀ q ∈ t_X0_padMessage.2, ev_okW tbs t_X0_padMessage.1.1 t_X0_padMessage.1.2.1.name q.2.2.2.1 q.2.2.2.2.1 q.2.2.2.2.2.1 q.2.2.2.2.2.2 q.2.1 := List.forall_mem_cons.mpr ⟨trivial, List.forall_mem_cons.mpr ⟨w_5 _, List.forall_mem_cons.mpr ⟨trivial, List.forall_mem_cons.mpr ⟨trivial, List.forall_mem_cons.mpr ⟨trivial, List.forall_mem_cons.mpr ⟨trivial, List.forall_mem_cons.mpr ⟨trivial, List.forall_mem_cons.mpr ⟨trivial, List.forall_mem_cons.mpr ⟨trivial, List.forall_mem_cons.mpr ⟨trivial, List.forall_mem_cons.mpr ⟨trivial, List.forall_mem_cons.mpr ⟨trivial, List.forall_mem_cons.mpr ⟨trivial, List.forall_mem_cons.mpr ⟨trivial, List.forall_mem_cons.mpr ⟨w_5 _, List.forall_mem_cons.mpr ⟨trivial, List.forall_mem_cons.mpr ⟨trivial, List.forall_mem_cons.mpr ⟨trivial, List.forall_mem_cons.mpr ⟨trivial, List.forall_mem_cons.mpr ⟨trivial, List.forall_mem_cons.mpr ⟨w_6 _, List.forall_mem_cons.mpr ⟨trivial, List.forall_mem_cons.mpr ⟨trivial, List.forall_mem_cons.mpr ⟨trivial, List.forall_mem_cons.mpr ⟨trivial, List.forall_mem_cons.mpr ⟨trivial, List.forall_mem_cons.mpr ⟨trivial, List.forall_mem_cons.mpr ⟨w_6 _, List.forall_mem_cons.mpr ⟨trivial, List.forall_mem_cons.mpr ⟨w_5 _, List.forall_mem_cons.mpr ⟨w_14 _, List.forall_mem_cons.mpr ⟨trivial, List.forall_mem_cons.mpr ⟨trivial, List.forall_mem_cons.mpr ⟨w_6 _, List.forall_mem_cons.mpr ⟨trivial, List.forall_mem_cons.mpr ⟨trivial, List.forall_mem_cons.mpr ⟨trivial, List.forall_mem_cons.mpr ⟨trivial, List.forall_mem_cons.mpr ⟨w_5 _, List.forall_mem_cons.mpr ⟨trivial, List.forall_mem_cons.mpr ⟨trivial, List.forall_mem_cons.mpr ⟨trivial, List.forall_mem_cons.mpr ⟨trivial, List.forall_mem_cons.mpr ⟨trivial, fun _ h => absurd h List.not_mem_nil⟩⟩⟩⟩⟩⟩⟩⟩⟩⟩⟩⟩⟩⟩⟩⟩⟩⟩⟩⟩⟩⟩⟩⟩⟩⟩⟩⟩⟩⟩⟩⟩⟩⟩⟩⟩⟩⟩⟩⟩⟩⟩⟩⟩
theorem ok_X0_padMessage : ev_ok tbs t_X0_padMessage := ⟨rfl, by decide +kernel, fun q hq => ⟨List.all_eq_true.mp kb_X0_padMessage q hq, kw_X0_padMessage q hq⟩⟩
set_option maxRecDepth 100000 in
theorem kb_X0_fillSchedule : t_X0_fillSchedule.2.all (fun q => ev_okB t_X0_fillSchedule.1.2.2.1 q.1 q.2) = true := by decide +kernel
set_option maxRecDepth 100000 in
set_option maxHeartbeats 4000000 in
theorem kw_X0_fillSchedule : ∀ q ∈ t_X0_fillSchedule.2, ev_okW tbs t_X0_fillSchedule.1.1 t_X0_fillSchedule.1.2.1.name q.2.2.2.1 q.2.2.2.2.1 q.2.2.2.2.2.1 q.2.2.2.2.2.2 q.2.1 := List.forall_mem_cons.mpr ⟨trivial, List.forall_mem_cons.mpr ⟨w_6 _, List.forall_mem_cons.mpr ⟨trivial, List.forall_mem_cons.mpr ⟨trivial, List.forall_mem_cons.mpr ⟨w_15 _, List.forall_mem_cons.mpr ⟨trivial, List.forall_mem_cons.mpr ⟨trivial, List.forall_mem_cons.mpr ⟨w_11 _, List.forall_mem_cons.mpr ⟨trivial, List.forall_mem_cons.mpr ⟨trivial, List.forall_mem_cons.mpr ⟨trivial, List.forall_mem_cons.mpr ⟨trivial, List.forall_mem_cons.mpr ⟨trivial, List.forall_mem_cons.mpr ⟨trivial, List.forall_mem_cons.mpr ⟨w_15 _, List.forall_mem_cons.mpr ⟨trivial, List.forall_mem_cons.mpr ⟨trivial, List.forall_mem_cons.mpr ⟨trivial, List.forall_mem_cons.mpr ⟨trivial, List.forall_mem_cons.mpr ⟨trivial, List.forall_mem_cons.mpr ⟨trivial, List.forall_mem_cons.mpr ⟨w_15 _, List.forall_mem_cons.mpr ⟨trivial, List.forall_mem_cons.mpr ⟨trivial, List.forall_mem_cons.mpr ⟨trivial, List.forall_mem_cons.mpr ⟨trivial, List.forall_mem_cons.mpr ⟨trivial, List.forall_mem_cons.mpr ⟨trivial, List.forall_mem_cons.mpr ⟨trivial, List.forall_mem_cons.mpr ⟨w_16 _, List.forall_mem_cons.mpr ⟨trivial, List.forall_mem_cons.mpr ⟨trivial, List.forall_mem_cons.mpr ⟨w_16 _, List.forall_mem_cons.mpr ⟨trivial, List.forall_mem_cons.mpr ⟨trivial, List.forall_mem_cons.mpr ⟨trivial, List.forall_mem_cons.mpr ⟨trivial, List.forall_mem_cons.mpr ⟨trivial, List.forall_mem_cons.mpr ⟨trivial, List.forall_mem_cons.mpr ⟨trivial, List.forall_mem_cons.mpr ⟨trivial, List.forall_mem_cons.mpr ⟨w_16 _, List.forall_mem_cons.mpr ⟨trivial, List.forall_mem_cons.mpr ⟨trivial, List.forall_mem_cons.mpr ⟨w_16 _, List.forall_mem_cons.mpr ⟨trivial, List.forall_mem_cons.mpr ⟨trivial, List.forall_mem_cons.mpr ⟨trivial, List.forall_mem_cons.mpr ⟨trivial, List.forall_mem_cons.mpr ⟨trivial, List.forall_mem_cons.mpr ⟨trivial, List.forall_mem_cons.mpr ⟨trivial, List.forall_mem_cons.mpr ⟨w_15 _, List.forall_mem_cons.mpr ⟨trivial, List.forall_mem_cons.mpr ⟨trivial, List.forall_mem_cons.mpr ⟨w_15 _, List.forall_mem_cons.mpr ⟨trivial, List.forall_mem_cons.mpr ⟨trivial, List.forall_mem_cons.mpr ⟨trivial, List.forall_mem_cons.mpr ⟨trivial, List.forall_mem_cons.mpr ⟨trivial, List.forall_mem_cons.mpr ⟨trivial, List.forall_mem_cons.mpr ⟨trivial, List.forall_mem_cons.mpr ⟨w_15 _, List.forall_mem_cons.mpr ⟨trivial, List.forall_mem_cons.mpr ⟨trivial, List.forall_mem_cons.mpr ⟨trivial, List.forall_mem_cons.mpr ⟨trivial, List.forall_mem_cons.mpr ⟨trivial, List.forall_mem_cons.mpr ⟨trivial, List.forall_mem_cons.mpr ⟨trivial, List.forall_mem_cons.mpr ⟨trivial, List.forall_mem_cons.mpr ⟨trivial, List.forall_mem_cons.mpr ⟨trivial, List.forall_mem_cons.mpr ⟨trivial, fun _ h => absurd h List.not_mem_nil⟩⟩⟩⟩⟩⟩⟩⟩⟩⟩⟩⟩⟩⟩⟩⟩⟩⟩⟩⟩⟩⟩⟩⟩⟩⟩⟩⟩⟩⟩⟩⟩⟩⟩⟩⟩⟩⟩⟩⟩⟩⟩⟩⟩⟩⟩⟩⟩⟩⟩⟩⟩⟩⟩⟩⟩⟩⟩⟩⟩⟩⟩⟩⟩⟩⟩⟩⟩⟩⟩⟩⟩⟩⟩⟩
theorem ok_X0_fillSchedule : ev_ok tbs t_X0_fillSchedule := ⟨rfl, by decide +kernel, fun q hq => ⟨List.all_eq_true.mp kb_X0_fillSchedule q hq, kw_X0_fillSchedule q hq⟩⟩
set_option maxRecDepth 100000 in
theorem kb_X0_compress : t_X0_compress.2.all (fun q => ev_okB t_X0_compress.1.2.2.1 q.1 q.2) = true := by decide +kernel
set_option maxRecDepth 100000 in
set_option maxHeartbeats 4000000 in
theorem kw_X0_compress : ∀ q ∈ t_X0_compress.2, ev_okW tbs t_X0_compress.1.1 t_X0_compress.1.2.1.name q.2.2.2.1 q.2.2.2.2.1 q.2.2.2.2.2.1 q.2.2.2.2.2.2 q.2.1 := List.forall_mem_cons.mpr ⟨trivial, List.forall_mem_cons.mpr ⟨w_10 _, List.forall_mem_cons.mpr ⟨trivial, List.forall_mem_cons.mpr ⟨trivial, List.forall_mem_cons.mpr ⟨trivial, List.forall_mem_cons.mpr ⟨trivial, List.forall_mem_cons.mpr ⟨w_10 _, List.forall_mem_cons.mpr ⟨trivial, List.forall_mem_cons.mpr ⟨trivial, List.forall_mem_cons.mpr ⟨trivial, List.forall_mem_cons.mpr ⟨trivial, List.forall_mem_cons.mpr ⟨w_10 _, List.forall_mem_cons.mpr ⟨trivial, List.forall_mem_cons.mpr ⟨trivial, List.forall_mem_cons.mpr ⟨trivial, List.forall_mem_cons.mpr ⟨trivial, List.forall_mem_cons.mpr ⟨w_10 _, List.forall_mem_cons.mpr ⟨trivial, List.forall_mem_cons.mpr ⟨trivial, List.forall_mem_cons.mpr ⟨trivial, List.forall_mem_cons.mpr ⟨trivial, List.forall_mem_cons.mpr ⟨w_10 _, List.forall_mem_cons.mpr ⟨trivial, List.forall_mem_cons.mpr ⟨trivial, List.forall_mem_cons.mpr ⟨trivial, List.forall_mem_cons.mpr ⟨trivial, List.forall_mem_cons.mpr ⟨w_10 _, List.forall_mem_cons.mpr ⟨trivial, List.forall_mem_cons.mpr ⟨trivial, List.forall_mem_cons.mpr ⟨trivial, List.forall_mem_cons.mpr ⟨trivial, List.forall_mem_cons.mpr ⟨w_10 _, List.forall_mem_cons.mpr ⟨trivial, List.forall_mem_cons.mpr ⟨trivial, List.forall_mem_cons.mpr ⟨trivial, List.forall_mem_cons.mpr ⟨trivial, List.forall_mem_cons.mpr ⟨w_10 _, List.forall_mem_cons.mpr ⟨trivial, List.forall_mem_cons.mpr ⟨trivial, List.forall_mem_cons.mpr ⟨trivial, List.forall_mem_cons.mpr ⟨trivial, List.forall_mem_cons.mpr ⟨trivial, List.forall_mem_cons.mpr ⟨trivial, List.forall_mem_cons.mpr ⟨trivial, List.forall_mem_cons.mpr ⟨trivial, List.forall_mem_cons.mpr ⟨trivial, List.forall_mem_cons.mpr ⟨trivial, List.forall_mem_cons.mpr ⟨w_16 _, List.forall_mem_cons.mpr ⟨trivial, List.forall_mem_cons.mpr ⟨trivial, List.forall_mem_cons.mpr ⟨w_16 _, List.forall_mem_cons.mpr ⟨trivial, List.forall_mem_cons.mpr ⟨trivial, List.forall_mem_cons.mpr ⟨trivial, List.forall_mem_cons.mpr ⟨w_16 _, List.forall_mem_cons.mpr ⟨trivial, List.forall_mem_cons.mpr ⟨trivial, List.forall_mem_cons.mpr ⟨trivial, List.forall_mem_cons.mpr ⟨trivial, List.forall_mem_cons.mpr ⟨trivial, List.forall_mem_cons.mpr ⟨trivial, List.forall_mem_cons.mpr ⟨trivial, List.forall_mem_cons.mpr ⟨trivial, List.forall_mem_cons.mpr ⟨trivial, List.forall_mem_cons.mpr ⟨trivial, List.forall_mem_cons.mpr ⟨trivial, List.forall_mem_cons.mpr ⟨trivial, List.forall_mem_cons.mpr ⟨trivial, List.forall_mem_cons.mpr ⟨trivial, List.forall_mem_cons.mpr ⟨trivial, List.forall_mem_cons.mpr ⟨trivial, List.forall_mem_cons.mpr ⟨trivial, List.forall_mem_cons.mpr ⟨w_17 _, List.forall_mem_cons.mpr ⟨trivial, List.forall_mem_cons.mpr ⟨trivial, List.forall_mem_cons.mpr ⟨trivial, List.forall_mem_cons.mpr ⟨trivial, List.forall_mem_cons.mpr ⟨w_15 _, List.forall_mem_cons.mpr ⟨trivial, List.forall_mem_cons.mpr ⟨trivial, List.forall_mem_cons.mpr ⟨trivial, List.forall_mem_cons.mpr ⟨trivial, List.forall_mem_cons.mpr ⟨trivial, List.forall_mem_cons.mpr ⟨trivial, List.forall_mem_cons.mpr ⟨w_16 _, List.forall_mem_cons.mpr ⟨trivial, List.forall_mem_cons.mpr ⟨trivial, List.forall_mem_cons.mpr ⟨w_16 _, List.forall_mem_cons.mpr ⟨trivial, List.forall_mem_cons.mpr ⟨trivial, List.forall_mem_cons.mpr ⟨trivial, List.forall_mem_cons.mpr ⟨w_16 _, List.forall_mem_cons.mpr ⟨trivial, List.forall_mem_cons.mpr ⟨trivial, List.forall_mem_cons.mpr ⟨trivial, List.forall_mem_cons.mpr ⟨trivial, List.forall_mem_cons.mpr ⟨trivial, List.forall_mem_cons.mpr ⟨trivial, List.forall_mem_cons.mpr ⟨trivial, List.forall_mem_cons.mpr ⟨trivial, List.forall_mem_cons.mpr ⟨trivial, List.forall_mem_cons.mpr ⟨trivial, List.forall_mem_cons.mpr ⟨trivial, List.forall_mem_cons.mpr ⟨trivial, List.forall_mem_cons.mpr ⟨trivial, List.forall_mem_cons.mpr ⟨trivial, List.forall_mem_cons.mpr ⟨trivial, List.forall_mem_cons.mpr ⟨trivial, List.forall_mem_cons.mpr ⟨trivial, List.forall_mem_cons.mpr ⟨trivial, List.forall_mem_cons.mpr ⟨trivial, List.forall_mem_cons.mpr ⟨trivial, List.forall_mem_cons.mpr ⟨trivial, List.forall_mem_cons.mpr ⟨trivial, List.forall_mem_cons.mpr ⟨trivial, List.forall_mem_cons.mpr ⟨trivial, List.forall_mem_cons.mpr ⟨trivial, List.forall_mem_cons.mpr ⟨trivial, List.forall_mem_cons.mpr ⟨trivial, List.forall_mem_cons.mpr ⟨trivial, List.forall_mem_cons.mpr ⟨trivial, List.forall_mem_cons.mpr ⟨trivial, List.forall_mem_cons.mpr ⟨trivial, List.forall_mem_cons.mpr ⟨trivial, List.forall_mem_cons.mpr ⟨trivial, List.forall_mem_cons.mpr ⟨trivial, List.forall_mem_cons.mpr ⟨trivial, List.forall_mem_cons.mpr ⟨trivial, List.forall_mem_cons.mpr ⟨trivial, List.forall_mem_cons.mpr ⟨trivial, List.forall_mem_cons.mpr ⟨trivial, List.forall_mem_cons.mpr ⟨w_10 _, List.forall_mem_cons.mpr ⟨trivial, List.forall_mem_cons.mpr ⟨trivial, List.forall_mem_cons.mpr ⟨trivial, List.forall_mem_cons.mpr ⟨trivial, List.forall_mem_cons.mpr ⟨trivial, List.forall_mem_cons.mpr ⟨trivial, List.forall_mem_cons.mpr ⟨trivial, List.forall_mem_cons.mpr ⟨w_10 _, List.forall_mem_cons.mpr ⟨trivial, List.forall_mem_cons.mpr ⟨trivial, List.forall_mem_cons.mpr ⟨trivial, List.forall_mem_cons.mpr ⟨trivial, List.forall_mem_cons.mpr ⟨trivial, List.forall_mem_cons.mpr ⟨trivial, List.forall_mem_cons.mpr ⟨trivial, List.forall_mem_cons.mpr ⟨w_10 _, List.forall_mem_cons.mpr ⟨trivial, List.forall_mem_cons.mpr ⟨trivial, List.forall_mem_cons.mpr ⟨trivial, List.forall_mem_cons.mpr ⟨trivial, List.forall_mem_cons.mpr ⟨trivial, List.forall_mem_cons.mpr ⟨trivial, List.forall_mem_cons.mpr ⟨trivial, List.forall_mem_cons.mpr ⟨w_10 _, List.forall_mem_cons.mpr ⟨trivial, List.forall_mem_cons.mpr ⟨trivial, List.forall_mem_cons.mpr ⟨trivial, List.forall_mem_cons.mpr ⟨trivial, List.forall_mem_cons.mpr ⟨trivial, List.forall_mem_cons.mpr ⟨trivial, List.forall_mem_cons.mpr ⟨trivial, List.forall_mem_cons.mpr ⟨w_10 _, List.forall_mem_cons.mpr ⟨trivial, List.forall_mem_cons.mpr ⟨trivial, List.forall_mem_cons.mpr ⟨trivial, List.forall_mem_cons.mpr ⟨trivial, List.forall_mem_cons.mpr ⟨trivial, List.forall_mem_cons.mpr ⟨trivial, List.forall_mem_cons.mpr ⟨trivial, List.forall_mem_cons.mpr ⟨w_10 _, List.forall_mem_cons.mpr ⟨trivial, List.forall_mem_cons.mpr ⟨trivial, List.forall_mem_cons.mpr ⟨trivial, List.forall_mem_cons.mpr ⟨trivial, List.forall_mem_cons.mpr ⟨trivial, List.forall_mem_cons.mpr ⟨trivial, List.forall_mem_cons.mpr ⟨trivial, List.forall_mem_cons.mpr ⟨w_10 _, List.forall_mem_cons.mpr ⟨trivial, List.forall_mem_cons.mpr ⟨trivial, List.forall_mem_cons.mpr ⟨trivial, List.forall_mem_cons.mpr ⟨trivial, List.forall_mem_cons.mpr ⟨trivial, List.forall_mem_cons.mpr ⟨trivial, List.forall_mem_cons.mpr ⟨trivial, List.forall_mem_cons.mpr ⟨w_10 _, List.forall_mem_cons.mpr ⟨trivial, List.forall_mem_cons.mpr ⟨trivial, List.forall_mem_cons.mpr ⟨trivial, List.forall_mem_cons.mpr ⟨trivial, List.forall_mem_cons.mpr ⟨trivial, List.forall_mem_cons.mpr ⟨trivial, List.forall_mem_cons.mpr ⟨trivial, fun _ h => absurd h List.not_mem_nil⟩⟩⟩⟩⟩⟩⟩⟩⟩⟩⟩⟩⟩⟩⟩⟩⟩⟩⟩⟩⟩⟩⟩⟩⟩⟩⟩⟩⟩⟩⟩⟩⟩⟩⟩⟩⟩⟩⟩⟩⟩⟩⟩⟩⟩⟩⟩⟩⟩⟩⟩⟩⟩⟩⟩⟩⟩⟩⟩⟩⟩⟩⟩⟩⟩⟩⟩⟩⟩⟩⟩⟩⟩⟩⟩⟩⟩⟩⟩⟩⟩⟩⟩⟩⟩⟩⟩⟩⟩⟩⟩⟩⟩⟩⟩⟩⟩⟩⟩⟩⟩⟩⟩⟩⟩⟩⟩⟩⟩⟩⟩⟩⟩⟩⟩⟩⟩⟩⟩⟩⟩⟩⟩⟩⟩⟩⟩⟩⟩⟩⟩⟩⟩⟩⟩⟩⟩⟩⟩⟩⟩⟩⟩⟩⟩⟩⟩⟩⟩⟩⟩⟩⟩⟩⟩⟩⟩⟩⟩⟩⟩⟩⟩⟩⟩⟩⟩⟩⟩⟩⟩⟩⟩⟩⟩⟩⟩⟩⟩⟩⟩⟩⟩⟩⟩⟩⟩⟩⟩⟩⟩⟩⟩⟩⟩
theorem ok_X0_compress : ev_ok tbs t_X0_compress := ⟨rfl, by decide +kernel, fun q hq => ⟨List.all_eq_true.mp kb_X0_compress q hq, kw_X0_compress q hq⟩⟩
set_option maxRecDepth 100000 in
theorem kb_X0_turnRight : t_X0_turnRight.2.all (fun q => ev_okB t_X0_turnRight.1.2.2.1 q.1 q.2) = true := by decide +kernel
set_option maxRecDepth 100000 in
set_option maxHeartbeats 4000000 in
theorem kw_X0_turnRight : ∀ q ∈ t_X0_turnRight.2, ev_okW tbs t_X0_turnRight.1.1 t_X0_turnRight.1.2.1.name q.2.2.2.1 q.2.2.2.2.1 q.2.2.2.2.2.1 q.2.2.2.2.2.2 q.2.1 := List.forall_mem_cons.mpr ⟨trivial, List.forall_mem_cons.mpr ⟨trivial, List.forall_mem_cons.mpr ⟨trivial, List.forall_mem_cons.mpr ⟨trivial, List.forall_mem_cons.mpr ⟨trivial, List.forall_mem_cons.mpr ⟨trivial, List.forall_mem_cons.mpr ⟨trivial, List.forall_mem_cons.mpr ⟨trivial, List.forall_mem_cons.mpr ⟨trivial, List.forall_mem_cons.mpr ⟨trivial, fun _ h => absurd h List.not_mem_nil⟩⟩⟩⟩⟩⟩⟩⟩⟩⟩
theorem ok_X0_turnRight : ev_ok tbs t_X0_turnRight := ⟨rfl, by decide +kernel, fun q hq => ⟨List.all_eq_true.mp kb_X0_turnRight q hq, kw_X0_turnRight q hq⟩⟩
set_option maxRecDepth 100000 in
theorem kb_X1_init : t_X1_init.2.all (fun q => ev_okB t_X1_init.1.2.2.1 q.1 q.2) = true := by decide +kernel
set_option maxRecDepth 100000 in
set_option maxHeartbeats 4000000 in
theorem kw_X1_init : ∀ q ∈ t_X1_init.2, ev_okW tbs t_X1_init.1.1 t_X1_init.1.2.1.name q.2.2.2.1 q.2.2.2.2.1 q.2.2.2.2.2.1 q.2.2.2.2.2.2 q.2.1 := List.forall_mem_cons.mpr ⟨trivial, List.forall_mem_cons.mpr ⟨w_18 _, List.forall_mem_cons.mpr ⟨trivial, List.forall_mem_cons.mpr ⟨trivial, List.forall_mem_cons.mpr ⟨trivial, List.forall_mem_cons.mpr ⟨w_19, List.forall_mem_cons.mpr ⟨trivial, List.forall_mem_cons.mpr ⟨trivial, List.forall_mem_cons.mpr ⟨trivial, List.forall_mem_cons.mpr ⟨w_20, List.forall_mem_cons.mpr ⟨trivial, List.forall_mem_cons.mpr ⟨trivial, List.forall_mem_cons.mpr ⟨w_21, List.forall_mem_cons.mpr ⟨trivial, List.forall_mem_cons.mpr ⟨trivial, List.forall_mem_cons.mpr ⟨w_22, List.forall_mem_cons.mpr ⟨trivial, fun _ h => absurd h List.not_mem_nil⟩⟩⟩⟩⟩⟩⟩⟩⟩⟩⟩⟩⟩⟩⟩⟩⟩
theorem ok_X1_init : ev_ok tbs t_X1_init := ⟨rfl, by decide +kernel, fun q hq => ⟨List.all_eq_true.mp kb_X1_init q hq, kw_X1_init q hq⟩⟩
set_option maxRecDepth 100000 in
theorem kb_X1_own : t_X1_own.2.all (fun q => ev_okB t_X1_own.1.2.2.1 q.1 q.2) = true := by decide +kernel
set_option maxRecDepth 100000 in
set_option maxHeartbeats 4000000 in
theorem kw_X1_own : ∀ q ∈ t_X1_own.2, ev_okW tbs t_X1_own.1.1 t_X1_own.1.2.1.name q.2.2.2.1 q.2.2.2.2.1 q.2.2.2.2.2.1 q.2.2.2.2.2.2 q.2.1 := List.forall_mem_cons.mpr ⟨trivial, List.forall_mem_cons.mpr ⟨trivial, List.forall_mem_cons.mpr ⟨w_23 _, List.forall_mem_cons.mpr ⟨trivial, List.forall_mem_cons.mpr ⟨trivial, List.forall_mem_cons.mpr ⟨w_24 _, List.forall_mem_cons.mpr ⟨trivial, fun _ h => absurd h List.not_mem_nil⟩⟩⟩⟩⟩⟩⟩
theorem ok_X1_own : ev_ok tbs t_X1_own := ⟨rfl, by decide +kernel, fun q hq => ⟨List.all_eq_true.mp kb_X1_own q hq, kw_X1_own q hq⟩⟩
set_option maxRecDepth 100000 in
theorem kb_X1_clear : t_X1_clear.2.all (fun q => ev_okB t_X1_clear.1.2.2.1 q.1 q.2) = true := by decide +kernel
set_option maxRecDepth 100000 in
set_option maxHeartbeats 4000000 in
theorem kw_X1_clear : ∀ q ∈ t_X1_clear.2, ev_okW tbs t_X1_clear.1.1 t_X1_clear.1.2.1.name q.2.2.2.1 q.2.2.2.2.1 q.2.2.2.2.2.1 q.2.2.2.2.2.2 q.2.1 := List.forall_mem_cons.mpr ⟨trivial, List.forall_mem_cons.mpr ⟨trivial, List.forall_mem_cons.mpr ⟨w_23 _, List.forall_mem_cons.mpr ⟨trivial, List.forall_mem_cons.mpr ⟨trivial, List.forall_mem_cons.mpr ⟨w_24 _, List.forall_mem_cons.mpr ⟨trivial, List.forall_mem_cons.mpr ⟨trivial, List.forall_mem_cons.mpr ⟨w_25 _, List.forall_mem_cons.mpr ⟨trivial, List.forall_mem_cons.mpr ⟨trivial, List.forall_mem_cons.mpr ⟨w_26 _, List.forall_mem_cons.mpr ⟨trivial, List.forall_mem_cons.mpr ⟨trivial, List.forall_mem_cons.mpr ⟨w_27 _, List.forall_mem_cons.mpr ⟨trivial, List.forall_mem_cons.mpr ⟨trivial, List.forall_mem_cons.mpr ⟨w_28 _, List.forall_mem_cons.mpr ⟨trivial, List.forall_mem_cons.mpr ⟨trivial, List.forall_mem_cons.mpr ⟨trivial, List.forall_mem_cons.mpr ⟨trivial, List.forall_mem_cons.mpr ⟨trivial, List.forall_mem_cons.mpr ⟨trivial, List.forall_mem_cons.mpr ⟨w_29 _, List.forall_mem_cons.mpr ⟨trivial, List.forall_mem_cons.mpr ⟨trivial, List.forall_mem_cons.mpr ⟨trivial, List.forall_mem_cons.mpr ⟨trivial, List.forall_mem_cons.mpr ⟨trivial, List.forall_mem_cons.mpr ⟨trivial, List.forall_mem_cons.mpr ⟨trivial, List.forall_mem_cons.mpr ⟨trivial, List.forall_mem_cons.mpr ⟨trivial, List.forall_mem_cons.mpr ⟨trivial, List.forall_mem_cons.mpr ⟨trivial, List.forall_mem_cons.mpr ⟨w_30 _, List.forall_mem_cons.mpr ⟨trivial, List.forall_mem_cons.mpr ⟨trivial, List.forall_mem_cons.mpr ⟨trivial, List.forall_mem_cons.mpr ⟨trivial, List.forall_mem_cons.mpr ⟨trivial, List.forall_mem_cons.mpr ⟨trivial, fun _ h => absurd h List.not_mem_nil⟩⟩⟩⟩⟩⟩⟩⟩⟩⟩⟩⟩⟩⟩⟩⟩⟩⟩⟩⟩⟩⟩⟩⟩⟩⟩⟩⟩⟩⟩⟩⟩⟩⟩⟩⟩⟩⟩⟩⟩⟩⟩⟩
theorem ok_X1_clear : ev_ok tbs t_X1_clear := ⟨rfl, by decide +kernel, fun q hq => ⟨List.all_eq_true.mp kb_X1_clear q hq, kw_X1_clear q hq⟩⟩
set_option maxRecDepth 100000 in
theorem kb_X1_isSaved : t_X1_isSaved.2.all (fun q => ev_okB t_X1_isSaved.1.2.2.1 q.1 q.2) = true := by decide +kernel
set_option maxRecDepth 100000 in
set_option maxHeartbeats 4000000 in
theorem kw_X1_isSaved : ∀ q ∈ t_X1_isSaved.2, ev_okW tbs t_X1_isSaved.1.1 t_X1_isSaved.1.2.1.name q.2.2.2.1 q.2.2.2.2.1 q.2.2.2.2.2.1 q.2.2.2.2.2.2 q.2.1 := List.forall_mem_cons.mpr ⟨trivial, List.forall_mem_cons.mpr ⟨w_31 _, List.forall_mem_cons.mpr ⟨trivial, List.forall_mem_cons.mpr ⟨trivial, List.forall_mem_cons.mpr ⟨trivial, List.forall_mem_cons.mpr ⟨w_29 _, List.forall_mem_cons.mpr ⟨trivial, List.forall_mem_cons.mpr ⟨trivial, List.forall_mem_cons.mpr ⟨trivial, List.forall_mem_cons.mpr ⟨trivial, List.forall_mem_cons.mpr ⟨trivial, List.forall_mem_cons.mpr ⟨trivial, List.forall_mem_cons.mpr ⟨trivial, fun _ h => absurd h List.not_mem_nil⟩⟩⟩⟩⟩⟩⟩⟩⟩⟩⟩⟩⟩
theorem ok_X1_isSaved : ev_ok tbs t_X1_isSaved := ⟨rfl, by decide +kernel, fun q hq => ⟨List.all_eq_true.mp kb_X1_isSaved q hq, kw_X1_isSaved q hq⟩⟩
set_option maxRecDepth 100000 in
theorem kb_X1_isDataOf : t_X1_isDataOf.2.all (fun q => ev_okB t_X1_isDataOf.1.2.2.1 q.1 q.2) = true := by decide +kernel
set_option maxRecDepth 100000 in
set_option maxHeartbeats 4000000 in
theorem kw_X1_isDataOf : ∀ q ∈ t_X1_isDataOf.2, ev_okW tbs t_X1_isDataOf.1.1 t_X1_isDataOf.1.2.1.name q.2.2.2.1 q.2.2.2.2.1 q.2.2.2.2.2.1 q.2.2.2.2.2.2 q.2.1 := List.forall_mem_cons.mpr ⟨trivial, List.forall_mem_cons.mpr ⟨w_31 _, List.forall_mem_cons.mpr ⟨trivial, List.forall_mem_cons.mpr ⟨trivial, List.forall_mem_cons.mpr ⟨trivial, List.forall_mem_cons.mpr ⟨w_32 _, List.forall_mem_cons.mpr ⟨trivial, List.forall_mem_cons.mpr ⟨trivial, List.forall_mem_cons.mpr ⟨trivial, List.forall_mem_cons.mpr ⟨trivial, List.forall_mem_cons.mpr ⟨trivial, List.forall_mem_cons.mpr ⟨trivial, fun _ h => absurd h List.not_mem_nil⟩⟩⟩⟩⟩⟩⟩⟩⟩⟩⟩⟩
theorem ok_X1_isDataOf : ev_ok tbs t_X1_isDataOf := ⟨rfl, by decide +kernel, fun q hq => ⟨List.all_eq_true.mp kb_X1_isDataOf q hq, kw_X1_isDataOf q hq⟩⟩
set_option maxRecDepth 100000 in
theorem kb_X1_numberIn : t_X1_numberIn.2.all (fun q => ev_okB t_X1_numberIn.1.2.2.1 q.1 q.2) = true := by decide +kernel
set_option maxRecDepth 100000 in
set_option maxHeartbeats 4000000 in
theorem kw_X1_numberIn : ∀ q ∈ t_X1_numberIn.2, ev_okW tbs t_X1_numberIn.1.1 t_X1_numberIn.1.2.1.name q.2.2.2.1 q.2.2.2.2.1 q.2.2.2.2.2.1 q.2.2.2.2.2.2 q.2.1 := List.forall_mem_cons.mpr ⟨trivial, List.forall_mem_cons.mpr ⟨trivial, List.forall_mem_cons.mpr ⟨w_33 _, List.forall_mem_cons.mpr ⟨trivial, List.forall_mem_cons.mpr ⟨trivial, List.forall_mem_cons.mpr ⟨w_29 _, List.forall_mem_cons.mpr ⟨trivial, List.forall_mem_cons.mpr ⟨trivial, List.forall_mem_cons.mpr ⟨trivial, List.forall_mem_cons.mpr ⟨trivial, List.forall_mem_cons.mpr ⟨trivial, List.forall_mem_cons.mpr ⟨w_29 _, List.forall_mem_cons.mpr ⟨trivial, List.forall_mem_cons.mpr ⟨trivial, List.forall_mem_cons.mpr ⟨trivial, List.forall_mem_cons.mpr ⟨trivial, List.forall_mem_cons.mpr ⟨trivial, List.forall_mem_cons.mpr ⟨trivial, List.forall_mem_cons.mpr ⟨w_34 _, List.forall_mem_cons.mpr ⟨trivial, List.forall_mem_cons.mpr ⟨trivial, List.forall_mem_cons.mpr ⟨trivial, fun _ h => absurd h List.not_mem_nil⟩⟩⟩⟩⟩⟩⟩⟩⟩⟩⟩⟩⟩⟩⟩⟩⟩⟩⟩⟩⟩⟩
theorem ok_X1_numberIn : ev_ok tbs t_X1_numberIn := ⟨rfl, by decide +kernel, fun q hq => ⟨List.all_eq_true.mp kb_X1_numberIn q hq, kw_X1_numberIn q hq⟩⟩
set_option maxRecDepth 100000 in
theorem kb_X1_setNumber : t_X1_setNumber.2.all (fun q => ev_okB t_X1_setNumber.1.2.2.1 q.1 q.2) = true := by decide +kernel
set_option maxRecDepth 100000 in
set_option maxHeartbeats 4000000 in
theorem kw_X1_setNumber : ∀ q ∈ t_X1_setNumber.2, ev_okW tbs t_X1_setNumber.1.1 t_X1_setNumber.1.2.1.name q.2.2.2.1 q.2.2.2.2.1 q.2.2.2.2.2.1 q.2.2.2.2.2.2 q.2.1 := List.forall_mem_cons.mpr ⟨trivial, List.forall_mem_cons.mpr ⟨trivial, List.forall_mem_cons.mpr ⟨w_33 _, List.forall_mem_cons.mpr ⟨trivial, List.forall_mem_cons.mpr ⟨trivial, List.forall_mem_cons.mpr ⟨w_29 _, List.forall_mem_cons.mpr ⟨trivial, List.forall_mem_cons.mpr ⟨trivial, List.forall_mem_cons.mpr ⟨trivial, List.forall_mem_cons.mpr ⟨trivial, List.forall_mem_cons.mpr ⟨trivial, List.forall_mem_cons.mpr ⟨trivial, List.forall_mem_cons.mpr ⟨trivial, List.forall_mem_cons.mpr ⟨trivial, List.forall_mem_cons.mpr ⟨trivial, List.forall_mem_cons.mpr ⟨w_29 _, List.forall_mem_cons.mpr ⟨trivial, List.forall_mem_cons.mpr ⟨trivial, List.forall_mem_cons.mpr ⟨trivial, List.forall_mem_cons.mpr ⟨trivial, List.forall_mem_cons.mpr ⟨trivial, List.forall_mem_cons.mpr ⟨trivial, List.forall_mem_cons.mpr ⟨trivial, List.forall_mem_cons.mpr ⟨trivial, List.forall_mem_cons.mpr ⟨trivial, fun _ h => absurd h List.not_mem_nil⟩⟩⟩⟩⟩⟩⟩⟩⟩⟩⟩⟩⟩⟩⟩⟩⟩⟩⟩⟩⟩⟩⟩⟩⟩
theorem ok_X1_setNumber : ev_ok tbs t_X1_setNumber := ⟨rfl, by decide +kernel, fun q hq => ⟨List.all_eq_true.mp kb_X1_setNumber q hq, kw_X1_setNumber q hq⟩⟩
set_option maxRecDepth 100000 in
theorem kb_X1_join : t_X1_join.2.all (fun q => ev_okB t_X1_join.1.2.2.1 q.1 q.2) = true := by decide +kernel
set_option maxRecDepth 100000 in
set_option maxHeartbeats 4000000 in
theorem kw_X1_join : ∀ q ∈ t_X1_join.2, ev_okW tbs t_X1_join.1.1 t_X1_join.1.2.1.name q.2.2.2.1 q.2.2.2.2.1 q.2.2.2.2.2.1 q.2.2.2.2.2.2 q.2.1 := List.forall_mem_cons.mpr ⟨trivial, List.forall_mem_cons.mpr ⟨trivial, List.forall_mem_cons.mpr ⟨trivial, List.forall_mem_cons.mpr ⟨trivial, List.forall_mem_cons.mpr ⟨trivial, List.forall_mem_cons.mpr ⟨trivial, List.forall_mem_cons.mpr ⟨w_35 _, List.forall_mem_cons.mpr ⟨trivial, List.forall_mem_cons.mpr ⟨trivial, List.forall_mem_cons.mpr ⟨trivial, fun _ h => absurd h List.not_mem_nil⟩⟩⟩⟩⟩⟩⟩⟩⟩⟩
theorem ok_X1_join : ev_ok tbs t_X1_join := ⟨rfl, by decide +kernel, fun q hq => ⟨List.all_eq_true.mp kb_X1_join q hq, kw_X1_join q hq⟩⟩
set_option maxRecDepth 100000 in
theorem kb_X2_init : t_X2_init.2.all (fun q => ev_okB t_X2_init.1.2.2.1 q.1 q.2) = true := by decide +kernel
set_option maxRecDepth 100000 in
set_option maxHeartbeats 4000000 in
theorem kw_X2_init : ∀ q ∈ t_X2_init.2, ev_okW tbs t_X2_init.1.1 t_X2_init.1.2.1.name q.2.2.2.1 q.2.2.2.2.1 q.2.2.2.2.2.1 q.2.2.2.2.2.2 q.2.1 := List.forall_mem_cons.mpr ⟨trivial, List.forall_mem_cons.mpr ⟨w_36 _, List.forall_mem_cons.mpr ⟨trivial, List.forall_mem_cons.mpr ⟨trivial, List.forall_mem_cons.mpr ⟨w_37 _, List.forall_mem_cons.mpr ⟨w_38, List.forall_mem_cons.mpr ⟨trivial, List.forall_mem_cons.mpr ⟨trivial, List.forall_mem_cons.mpr ⟨w_39, List.forall_mem_cons.mpr ⟨trivial, List.forall_mem_cons.mpr ⟨trivial, List.forall_mem_cons.mpr ⟨w_40, List.forall_mem_cons.mpr ⟨trivial, List.forall_mem_cons.mpr ⟨trivial, List.forall_mem_cons.mpr ⟨w_41, List.forall_mem_cons.mpr ⟨trivial, List.forall_mem_cons.mpr ⟨trivial, List.forall_mem_cons.mpr ⟨w_42, List.forall_mem_cons.mpr ⟨trivial, fun _ h => absurd h List.not_mem_nil⟩⟩⟩⟩⟩⟩⟩⟩⟩⟩⟩⟩⟩⟩⟩⟩⟩⟩⟩
theorem ok_X2_init : ev_ok tbs t_X2_init := ⟨rfl, by decide +kernel, fun q hq => ⟨List.all_eq_true.mp kb_X2_init q hq, kw_X2_init q hq⟩⟩
set_option maxRecDepth 100000 in
theorem kb_X2_mapSpace : t_X2_mapSpace.2.all (fun q => ev_okB t_X2_mapSpace.1.2.2.1 q.1 q.2) = true := by decide +kernel
set_option maxRecDepth 100000 in
set_option maxHeartbeats 4000000 in
theorem kw_X2_mapSpace : ∀ q ∈ t_X2_mapSpace.2, ev_okW tbs t_X2_mapSpace.1.1 t_X2_mapSpace.1.2.1.name q.2.2.2.1 q.2.2.2.2.1 q.2.2.2.2.2.1 q.2.2.2.2.2.2 q.2.1 := List.forall_mem_cons.mpr ⟨trivial, List.forall_mem_cons.mpr ⟨trivial, List.forall_mem_cons.mpr ⟨trivial, List.forall_mem_cons.mpr ⟨trivial, List.forall_mem_cons.mpr ⟨trivial, List.forall_mem_cons.mpr ⟨trivial, List.forall_mem_cons.mpr ⟨w_43 _, List.forall_mem_cons.mpr ⟨trivial, List.forall_mem_cons.mpr ⟨trivial, List.forall_mem_cons.mpr ⟨trivial, List.forall_mem_cons.mpr ⟨trivial, List.forall_mem_cons.mpr ⟨trivial, List.forall_mem_cons.mpr ⟨trivial, List.forall_mem_cons.mpr ⟨trivial, List.forall_mem_cons.mpr ⟨trivial, List.forall_mem_cons.mpr ⟨trivial, List.forall_mem_cons.mpr ⟨trivial, List.forall_mem_cons.mpr ⟨trivial, List.forall_mem_cons.mpr ⟨trivial, List.forall_mem_cons.mpr ⟨trivial, List.forall_mem_cons.mpr ⟨trivial, List.forall_mem_cons.mpr ⟨trivial, List.forall_mem_cons.mpr ⟨trivial, List.forall_mem_cons.mpr ⟨w_44 _, List.forall_mem_cons.mpr ⟨trivial, List.forall_mem_cons.mpr ⟨trivial, List.forall_mem_cons.mpr ⟨trivial, List.forall_mem_cons.mpr ⟨trivial, List.forall_mem_cons.mpr ⟨w_45 _, List.forall_mem_cons.mpr ⟨trivial, List.forall_mem_cons.mpr ⟨w_46 _, List.forall_mem_cons.mpr ⟨trivial, List.forall_mem_cons.mpr ⟨trivial, List.forall_mem_cons.mpr ⟨w_43 _, List.forall_mem_cons.mpr ⟨trivial, List.forall_mem_cons.mpr ⟨trivial, List.forall_mem_cons.mpr ⟨trivial, List.forall_mem_cons.mpr ⟨w_45 _, List.forall_mem_cons.mpr ⟨trivial, List.forall_mem_cons.mpr ⟨trivial, List.forall_mem_cons.mpr ⟨trivial, List.forall_mem_cons.mpr ⟨trivial, List.forall_mem_cons.mpr ⟨trivial, List.forall_mem_cons.mpr ⟨trivial, List.forall_mem_cons.mpr ⟨trivial, fun _ h => absurd h List.not_mem_nil⟩⟩⟩⟩⟩⟩⟩⟩⟩⟩⟩⟩⟩⟩⟩⟩⟩⟩⟩⟩⟩⟩⟩⟩⟩⟩⟩⟩⟩⟩⟩⟩⟩⟩⟩⟩⟩⟩⟩⟩⟩⟩⟩⟩⟩
theorem ok_X2_mapSpace : ev_ok tbs t_X2_mapSpace := ⟨rfl, by decide +kernel, fun q hq => ⟨List.all_eq_true.mp kb_X2_mapSpace q hq, kw_X2_mapSpace q hq⟩⟩
set_option maxRecDepth 100000 in
theorem kb_X2_go : t_X2_go.2.all (fun q => ev_okB t_X2_go.1.2.2.1 q.1 q.2) = true := by decide +kernel
set_option maxRecDepth 100000 in
set_option maxHeartbeats 4000000 in
theorem kw_X2_go : ∀ q ∈ t_X2_go.2, ev_okW tbs t_X2_go.1.1 t_X2_go.1.2.1.name q.2.2.2.1 q.2.2.2.2.1 q.2.2.2.2.2.1 q.2.2.2.2.2.2 q.2.1 := List.forall_mem_cons.mpr ⟨trivial, List.forall_mem_cons.mpr ⟨trivial, List.forall_mem_cons.mpr ⟨w_47 _, List.forall_mem_cons.mpr ⟨trivial, List.forall_mem_cons.mpr ⟨trivial, List.forall_mem_cons.mpr ⟨w_48 _, List.forall_mem_cons.mpr ⟨trivial, List.forall_mem_cons.mpr ⟨trivial, List.forall_mem_cons.mpr ⟨w_49 _, List.forall_mem_cons.mpr ⟨trivial, List.forall_mem_cons.mpr ⟨trivial, List.forall_mem_cons.mpr ⟨trivial, List.forall_mem_cons.mpr ⟨trivial, List.forall_mem_cons.mpr ⟨trivial, List.forall_mem_cons.mpr ⟨trivial, List.forall_mem_cons.mpr ⟨trivial, List.forall_mem_cons.mpr ⟨trivial, List.forall_mem_cons.mpr ⟨trivial, List.forall_mem_cons.mpr ⟨trivial, List.forall_mem_cons.mpr ⟨trivial, List.forall_mem_cons.mpr ⟨trivial, List.forall_mem_cons.mpr ⟨trivial, List.forall_mem_cons.mpr ⟨w_50 _, List.forall_mem_cons.mpr ⟨trivial, List.forall_mem_cons.mpr ⟨trivial, List.forall_mem_cons.mpr ⟨trivial, List.forall_mem_cons.mpr ⟨trivial, List.forall_mem_cons.mpr ⟨trivial, List.forall_mem_cons.mpr ⟨trivial, List.forall_mem_cons.mpr ⟨trivial, List.forall_mem_cons.mpr ⟨trivial, List.forall_mem_cons.mpr ⟨w_51 _, List.forall_mem_cons.mpr ⟨trivial, List.forall_mem_cons.mpr ⟨trivial, List.forall_mem_cons.mpr ⟨w_49 _, List.forall_mem_cons.mpr ⟨trivial, List.forall_mem_cons.mpr ⟨trivial, List.forall_mem_cons.mpr ⟨trivial, List.forall_mem_cons.mpr ⟨trivial, List.forall_mem_cons.mpr ⟨trivial, List.forall_mem_cons.mpr ⟨trivial, List.forall_mem_cons.mpr ⟨trivial, List.forall_mem_cons.mpr ⟨trivial, List.forall_mem_cons.mpr ⟨trivial, List.forall_mem_cons.mpr ⟨w_52 _, List.forall_mem_cons.mpr ⟨trivial, List.forall_mem_cons.mpr ⟨trivial, List.forall_mem_cons.mpr ⟨trivial, List.forall_mem_cons.mpr ⟨trivial, List.forall_mem_cons.mpr ⟨trivial, List.forall_mem_cons.mpr ⟨w_53 _, List.forall_mem_cons.mpr ⟨trivial, List.forall_mem_cons.mpr ⟨trivial, List.forall_mem_cons.mpr ⟨trivial, List.forall_mem_cons.mpr ⟨w_54 _, List.forall_mem_cons.mpr ⟨trivial, fun _ h => absurd h List.not_mem_nil⟩⟩⟩⟩⟩⟩⟩⟩⟩⟩⟩⟩⟩⟩⟩⟩⟩⟩⟩⟩⟩⟩⟩⟩⟩⟩⟩⟩⟩⟩⟩⟩⟩⟩⟩⟩⟩⟩⟩⟩⟩⟩⟩⟩⟩⟩⟩⟩⟩⟩⟩⟩⟩⟩⟩⟩
theorem ok_X2_go : ev_ok tbs t_X2_go := ⟨rfl, by decide +kernel, fun q hq => ⟨List.all_eq_true.mp kb_X2_go q hq, kw_X2_go q hq⟩⟩
set_option maxRecDepth 100000 in
theorem kb_X2_forget : t_X2_forget.2.all (fun q => ev_okB t_X2_forget.1.2.2.1 q.1 q.2) = true := by decide +kernel
set_option maxRecDepth 100000 in
set_option maxHeartbeats 4000000 in
theorem kw_X2_forget : ∀ q ∈ t_X2_forget.2, ev_okW tbs t_X2_forget.1.1 t_X2_forget.1.2.1.name q.2.2.2.1 q.2.2.2.2.1 q.2.2.2.2.2.1 q.2.2.2.2.2.2 q.2.1 := List.forall_mem_cons.mpr ⟨trivial, List.forall_mem_cons.mpr ⟨trivial, List.forall_mem_cons.mpr ⟨trivial, List.forall_mem_cons.mpr ⟨trivial, List.forall_mem_cons.mpr ⟨trivial, List.forall_mem_cons.mpr ⟨trivial, List.forall_mem_cons.mpr ⟨trivial, List.forall_mem_cons.mpr ⟨trivial, List.forall_mem_cons.mpr ⟨trivial, List.forall_mem_cons.mpr ⟨trivial, List.forall_mem_cons.mpr ⟨trivial, List.forall_mem_cons.mpr ⟨trivial, fun _ h => absurd h List.not_mem_nil⟩⟩⟩⟩⟩⟩⟩⟩⟩⟩⟩⟩
theorem ok_X2_forget : ev_ok tbs t_X2_forget := ⟨rfl, by decide +kernel, fun q hq => ⟨List.all_eq_true.mp kb_X2_forget q hq, kw_X2_forget q hq⟩⟩
set_option maxRecDepth 100000 in
theorem kb_X2_step : t_X2_step.2.all (fun q => ev_okB t_X2_step.1.2.2.1 q.1 q.2) = true := by decide +kernel
set_option maxRecDepth 100000 in
set_option maxHeartbeats 4000000 in
theorem kw_X2_step : ∀ q ∈ t_X2_step.2, ev_okW tbs t_X2_step.1.1 t_X2_step.1.2.1.name q.2.2.2.1 q.2.2.2.2.1 q.2.2.2.2.2.1 q.2.2.2.2.2.2 q.2.1 := List.forall_mem_cons.mpr ⟨trivial, List.forall_mem_cons.mpr ⟨trivial, List.forall_mem_cons.mpr ⟨trivial, List.forall_mem_cons.mpr ⟨trivial, List.forall_mem_cons.mpr ⟨trivial, List.forall_mem_cons.mpr ⟨trivial, List.forall_mem_cons.mpr ⟨trivial, List.forall_mem_cons.mpr ⟨w_55 _, List.forall_mem_cons.mpr ⟨trivial, List.forall_mem_cons.mpr ⟨trivial, List.forall_mem_cons.mpr ⟨trivial, List.forall_mem_cons.mpr ⟨trivial, List.forall_mem_cons.mpr ⟨trivial, List.forall_mem_cons.mpr ⟨trivial, List.forall_mem_cons.mpr ⟨w_56 _, List.forall_mem_cons.mpr ⟨trivial, List.forall_mem_cons.mpr ⟨trivial, List.forall_mem_cons.mpr ⟨trivial, List.forall_mem_cons.mpr ⟨trivial, List.forall_mem_cons.mpr ⟨trivial, List.forall_mem_cons.mpr ⟨trivial, List.forall_mem_cons.mpr ⟨trivial, List.forall_mem_cons.mpr ⟨trivial, List.forall_mem_cons.mpr ⟨w_57 _, List.forall_mem_cons.mpr ⟨trivial, List.forall_mem_cons.mpr ⟨trivial, List.forall_mem_cons.mpr ⟨trivial, List.forall_mem_cons.mpr ⟨trivial, List.forall_mem_cons.mpr ⟨w_57 _, List.forall_mem_cons.mpr ⟨trivial, List.forall_mem_cons.mpr ⟨trivial, List.forall_mem_cons.mpr ⟨w_57 _, List.forall_mem_cons.mpr ⟨trivial, List.forall_mem_cons.mpr ⟨trivial, List.forall_mem_cons.mpr ⟨trivial, List.forall_mem_cons.mpr ⟨trivial, List.forall_mem_cons.mpr ⟨trivial, List.forall_mem_cons.mpr ⟨trivial, List.forall_mem_cons.mpr ⟨trivial, List.forall_mem_cons.mpr ⟨trivial, List.forall_mem_cons.mpr ⟨trivial, List.forall_mem_cons.mpr ⟨trivial, List.forall_mem_cons.mpr ⟨trivial, List.forall_mem_cons.mpr ⟨trivial, List.forall_mem_cons.mpr ⟨trivial, List.forall_mem_cons.mpr ⟨w_47 _, List.forall_mem_cons.mpr ⟨trivial, List.forall_mem_cons.mpr ⟨trivial, List.forall_mem_cons.mpr ⟨trivial, List.forall_mem_cons.mpr ⟨trivial, List.forall_mem_cons.mpr ⟨trivial, List.forall_mem_cons.mpr ⟨trivial, List.forall_mem_cons.mpr ⟨trivial, List.forall_mem_cons.mpr ⟨trivial, List.forall_mem_cons.mpr ⟨trivial, List.forall_mem_cons.mpr ⟨trivial, List.forall_mem_cons.mpr ⟨trivial, List.forall_mem_cons.mpr ⟨trivial, List.forall_mem_cons.mpr ⟨trivial, List.forall_mem_cons.mpr ⟨trivial, List.forall_mem_cons.mpr ⟨trivial, List.forall_mem_cons.mpr ⟨trivial, List.forall_mem_cons.mpr ⟨trivial, List.forall_mem_cons.mpr ⟨trivial, List.forall_mem_cons.mpr ⟨trivial, List.forall_mem_cons.mpr ⟨trivial, List.forall_mem_cons.mpr ⟨trivial, List.forall_mem_cons.mpr ⟨trivial, List.forall_mem_cons.mpr ⟨trivial, List.forall_mem_cons.mpr ⟨trivial, List.forall_mem_cons.mpr ⟨trivial, List.forall_mem_cons.mpr ⟨trivial, List.forall_mem_cons.mpr ⟨trivial, List.forall_mem_cons.mpr ⟨trivial, List.forall_mem_cons.mpr ⟨trivial, List.forall_mem_cons.mpr ⟨trivial, List.forall_mem_cons.mpr ⟨trivial, List.forall_mem_cons.mpr ⟨trivial, List.forall_mem_cons.mpr ⟨trivial, List.forall_mem_cons.mpr ⟨trivial, List.forall_mem_cons.mpr ⟨trivial, List.forall_mem_cons.mpr ⟨trivial, List.forall_mem_cons.mpr ⟨trivial, List.forall_mem_cons.mpr ⟨trivial, List.forall_mem_cons.mpr ⟨trivial, List.forall_mem_cons.mpr ⟨trivial, List.forall_mem_cons.mpr ⟨trivial, List.forall_mem_cons.mpr ⟨trivial, List.forall_mem_cons.mpr ⟨trivial, List.forall_mem_cons.mpr ⟨trivial, List.forall_mem_cons.mpr ⟨trivial, List.forall_mem_cons.mpr ⟨trivial, List.forall_mem_cons.mpr ⟨trivial, List.forall_mem_cons.mpr ⟨trivial, List.forall_mem_cons.mpr ⟨trivial, List.forall_mem_cons.mpr ⟨trivial, List.forall_mem_cons.mpr ⟨trivial, List.forall_mem_cons.mpr ⟨w_58 _, List.forall_mem_cons.mpr ⟨trivial, List.forall_mem_cons.mpr ⟨trivial, List.forall_mem_cons.mpr ⟨trivial, List.forall_mem_cons.mpr ⟨trivial, List.forall_mem_cons.mpr ⟨trivial, List.forall_mem_cons.mpr ⟨trivial, List.forall_mem_cons.mpr ⟨trivial, List.forall_mem_cons.mpr ⟨trivial, List.forall_mem_cons.mpr ⟨trivial, List.forall_mem_cons.mpr ⟨trivial, List.forall_mem_cons.mpr ⟨trivial, List.forall_mem_cons.mpr ⟨trivial, List.forall_mem_cons.mpr ⟨trivial, List.forall_mem_cons.mpr ⟨trivial, List.forall_mem_cons.mpr ⟨w_59 _, List.forall_mem_cons.mpr ⟨trivial, List.forall_mem_cons.mpr ⟨trivial, List.forall_mem_cons.mpr ⟨trivial, List.forall_mem_cons.mpr ⟨trivial, List.forall_mem_cons.mpr ⟨trivial, List.forall_mem_cons.mpr ⟨trivial, List.forall_mem_cons.mpr ⟨trivial, List.forall_mem_cons.mpr ⟨trivial, List.forall_mem_cons.mpr ⟨trivial, List.forall_mem_cons.mpr ⟨trivial, List.forall_mem_cons.mpr ⟨trivial, List.forall_mem_cons.mpr ⟨trivial, List.forall_mem_cons.mpr ⟨trivial, List.forall_mem_cons.mpr ⟨trivial, List.forall_mem_cons.mpr ⟨trivial, List.forall_mem_cons.mpr ⟨trivial, List.forall_mem_cons.mpr ⟨trivial, List.forall_mem_cons.mpr ⟨trivial, List.forall_mem_cons.mpr ⟨trivial, List.forall_mem_cons.mpr ⟨trivial, List.forall_mem_cons.mpr ⟨trivial, List.forall_mem_cons.mpr ⟨trivial, List.forall_mem_cons.mpr ⟨trivial, List.forall_mem_cons.mpr ⟨trivial, List.forall_mem_cons.mpr ⟨trivial, List.forall_mem_cons.mpr ⟨trivial, List.forall_mem_cons.mpr ⟨trivial, List.forall_mem_cons.mpr ⟨trivial, List.forall_mem_cons.mpr ⟨trivial, List.forall_mem_cons.mpr ⟨trivial, List.forall_mem_cons.mpr ⟨trivial, List.forall_mem_cons.mpr ⟨trivial, List.forall_mem_cons.mpr ⟨trivial, List.forall_mem_cons.mpr ⟨trivial, List.forall_mem_cons.mpr ⟨trivial, List.forall_mem_cons.mpr ⟨trivial, List.forall_mem_cons.mpr ⟨trivial, List.forall_mem_cons.mpr ⟨trivial, List.forall_mem_cons.mpr ⟨trivial, List.forall_mem_cons.mpr ⟨trivial, List.forall_mem_cons.mpr ⟨trivial, List.forall_mem_cons.mpr ⟨trivial, List.forall_mem_cons.mpr ⟨trivial, fun _ h => absurd h List.not_mem_nil⟩⟩⟩⟩⟩⟩⟩⟩⟩⟩⟩⟩⟩⟩⟩⟩⟩⟩⟩⟩⟩⟩⟩⟩⟩⟩⟩⟩⟩⟩⟩⟩⟩⟩⟩⟩⟩⟩⟩⟩⟩⟩⟩⟩⟩⟩⟩⟩⟩⟩⟩⟩⟩⟩⟩⟩⟩⟩⟩⟩⟩⟩⟩⟩⟩⟩⟩⟩⟩⟩⟩⟩⟩⟩⟩⟩⟩⟩⟩⟩⟩⟩⟩⟩⟩⟩⟩⟩⟩⟩⟩⟩⟩⟩⟩⟩⟩⟩⟩⟩⟩⟩⟩⟩⟩⟩⟩⟩⟩⟩⟩⟩⟩⟩⟩⟩⟩⟩⟩⟩⟩⟩⟩⟩⟩⟩⟩⟩⟩⟩⟩⟩⟩⟩⟩⟩⟩⟩⟩⟩⟩⟩⟩⟩⟩⟩⟩⟩⟩⟩⟩⟩⟩⟩⟩⟩
theorem ok_X2_step : ev_ok tbs t_X2_step := ⟨rfl, by decide +kernel, fun q hq => ⟨List.all_eq_true.mp kb_X2_step q hq, kw_X2_step q hq⟩⟩
set_option maxRecDepth 100000 in
theorem kb_X2_register : t_X2_register.2.all (fun q => ev_okB t_X2_register.1.2.2.1 q.1 q.2) = true := by decide +kernel
set_option maxRecDepth 100000 in
set_option maxHeartbeats 4000000 in
theorem kw_X2_register : ∀ q ∈ t_X2_register.2, ev_okW tbs t_X2_register.1.1 t_X2_register.1.2.1.name q.2.2.2.1 q.2.2.2.2.1 q.2.2.2.2.2.1 q.2.2.2.2.2.2 q.2.1 := List.forall_mem_cons.mpr ⟨trivial, List.forall_mem_cons.mpr ⟨trivial, List.forall_mem_cons.mpr ⟨trivial, List.forall_mem_cons.mpr ⟨trivial, List.forall_mem_cons.mpr ⟨trivial, List.forall_mem_cons.mpr ⟨trivial, fun _ h => absurd h List.not_mem_nil⟩⟩⟩⟩⟩⟩
theorem ok_X2_register : ev_ok tbs t_X2_register := ⟨rfl, by decide +kernel, fun q hq => ⟨List.all_eq_true.mp kb_X2_register q hq, kw_X2_register q hq⟩⟩
set_option maxRecDepth 100000 in
theorem kb_X2_fetch : t_X2_fetch.2.all (fun q => ev_okB t_X2_fetch.1.2.2.1 q.1 q.2) = true := by decide +kernel
set_option maxRecDepth 100000 in
set_option maxHeartbeats 4000000 in
theorem kw_X2_fetch : ∀ q ∈ t_X2_fetch.2, ev_okW tbs t_X2_fetch.1.1 t_X2_fetch.1.2.1.name q.2.2.2.1 q.2.2.2.2.1 q.2.2.2.2.2.1 q.2.2.2.2.2.2 q.2.1 := List.forall_mem_cons.mpr ⟨trivial, List.forall_mem_cons.mpr ⟨trivial, List.forall_mem_cons.mpr ⟨trivial, List.forall_mem_cons.mpr ⟨w_55 _, List.forall_mem_cons.mpr ⟨trivial, List.forall_mem_cons.mpr ⟨trivial, List.forall_mem_cons.mpr ⟨trivial, List.forall_mem_cons.mpr ⟨trivial, List.forall_mem_cons.mpr ⟨trivial, List.forall_mem_cons.mpr ⟨trivial, List.forall_mem_cons.mpr ⟨trivial, List.forall_mem_cons.mpr ⟨trivial, List.forall_mem_cons.mpr ⟨w_56 _, List.forall_mem_cons.mpr ⟨trivial, List.forall_mem_cons.mpr ⟨trivial, List.forall_mem_cons.mpr ⟨trivial, List.forall_mem_cons.mpr ⟨trivial, List.forall_mem_cons.mpr ⟨trivial, List.forall_mem_cons.mpr ⟨trivial, List.forall_mem_cons.mpr ⟨trivial, fun _ h => absurd h List.not_mem_nil⟩⟩⟩⟩⟩⟩⟩⟩⟩⟩⟩⟩⟩⟩⟩⟩⟩⟩⟩⟩
theorem ok_X2_fetch : ev_ok tbs t_X2_fetch := ⟨rfl, by decide +kernel, fun q hq => ⟨List.all_eq_true.mp kb_X2_fetch q hq, kw_X2_fetch q hq⟩⟩
set_option maxRecDepth 100000 in
theorem kb_X2_store : t_X2_store.2.all (fun q => ev_okB t_X2_store.1.2.2.1 q.1 q.2) = true := by decide +kernel
set_option maxRecDepth 100000 in
set_option maxHeartbeats 4000000 in
theorem kw_X2_store : ∀ q ∈ t_X2_store.2, ev_okW tbs t_X2_store.1.1 t_X2_store.1.2.1.name q.2.2.2.1 q.2.2.2.2.1 q.2.2.2.2.2.1 q.2.2.2.2.2.2 q.2.1 := List.forall_mem_cons.mpr ⟨trivial, List.forall_mem_cons.mpr ⟨trivial, List.forall_mem_cons.mpr ⟨trivial, List.forall_mem_cons.mpr ⟨w_55 _, List.forall_mem_cons.mpr ⟨trivial, List.forall_mem_cons.mpr ⟨trivial, List.forall_mem_cons.mpr ⟨trivial, List.forall_mem_cons.mpr ⟨trivial, List.forall_mem_cons.mpr ⟨trivial, List.forall_mem_cons.mpr ⟨trivial, List.forall_mem_cons.mpr ⟨w_56 _, List.forall_mem_cons.mpr ⟨trivial, List.forall_mem_cons.mpr ⟨trivial, List.forall_mem_cons.mpr ⟨trivial, List.forall_mem_cons.mpr ⟨trivial, List.forall_mem_cons.mpr ⟨trivial, List.forall_mem_cons.mpr ⟨trivial, List.forall_mem_cons.mpr ⟨trivial, fun _ h => absurd h List.not_mem_nil⟩⟩⟩⟩⟩⟩⟩⟩⟩⟩⟩⟩⟩⟩⟩⟩⟩⟩
theorem ok_X2_store : ev_ok tbs t_X2_store := ⟨rfl, by decide +kernel, fun q hq => ⟨List.all_eq_true.mp kb_X2_store q hq, kw_X2_store q hq⟩⟩
set_option maxRecDepth 100000 in
theorem kb_X2_reach : t_X2_reach.2.all (fun q => ev_okB t_X2_reach.1.2.2.1 q.1 q.2) = true := by decide +kernel
set_option maxRecDepth 100000 in
set_option maxHeartbeats 4000000 in
theorem kw_X2_reach : ∀ q ∈ t_X2_reach.2, ev_okW tbs t_X2_reach.1.1 t_X2_reach.1.2.1.name q.2.2.2.1 q.2.2.2.2.1 q.2.2.2.2.2.1 q.2.2.2.2.2.2 q.2.1 := List.forall_mem_cons.mpr ⟨trivial, List.forall_mem_cons.mpr ⟨trivial, List.forall_mem_cons.mpr ⟨w_46 _, List.forall_mem_cons.mpr ⟨trivial, List.forall_mem_cons.mpr ⟨trivial, List.forall_mem_cons.mpr ⟨trivial, List.forall_mem_cons.mpr ⟨trivial, List.forall_mem_cons.mpr ⟨w_43 _, List.forall_mem_cons.mpr ⟨trivial, List.forall_mem_cons.mpr ⟨trivial, List.forall_mem_cons.mpr ⟨trivial, List.forall_mem_cons.mpr ⟨trivial, List.forall_mem_cons.mpr ⟨trivial, List.forall_mem_cons.mpr ⟨trivial, List.forall_mem_cons.mpr ⟨trivial, List.forall_mem_cons.mpr ⟨trivial, List.forall_mem_cons.mpr ⟨w_60 _, List.forall_mem_cons.mpr ⟨trivial, List.forall_mem_cons.mpr ⟨trivial, List.forall_mem_cons.mpr ⟨trivial, List.forall_mem_cons.mpr ⟨trivial, List.forall_mem_cons.mpr ⟨trivial, List.forall_mem_cons.mpr ⟨trivial, List.forall_mem_cons.mpr ⟨trivial, List.forall_mem_cons.mpr ⟨w_48 _, List.forall_mem_cons.mpr ⟨trivial, List.forall_mem_cons.mpr ⟨trivial, List.forall_mem_cons.mpr ⟨trivial, List.forall_mem_cons.mpr ⟨trivial, fun _ h => absurd h List.not_mem_nil⟩⟩⟩⟩⟩⟩⟩⟩⟩⟩⟩⟩⟩⟩⟩⟩⟩⟩⟩⟩⟩⟩⟩⟩⟩⟩⟩⟩⟩
theorem ok_X2_reach : ev_ok tbs t_X2_reach := ⟨rfl, by decide +kernel, fun q hq => ⟨List.all_eq_true.mp kb_X2_reach q hq, kw_X2_reach q hq⟩⟩
set_option maxRecDepth 100000 in
theorem kb_X3_init : t_X3_init.2.all (fun q => ev_okB t_X3_init.1.2.2.1 q.1 q.2) = true := by decide +kernel
set_option maxRecDepth 100000 in
set_option maxHeartbeats 4000000 in
theorem kw_X3_init : ∀ q ∈ t_X3_init.2, ev_okW tbs t_X3_init.1.1 t_X3_init.1.2.1.name q.2.2.2.1 q.2.2.2.2.1 q.2.2.2.2.2.1 q.2.2.2.2.2.2 q.2.1 := List.forall_mem_cons.mpr ⟨trivial, List.forall_mem_cons.mpr ⟨w_61 _, List.forall_mem_cons.mpr ⟨trivial, List.forall_mem_cons.mpr ⟨w_62 _, List.forall_mem_cons.mpr ⟨trivial, List.forall_mem_cons.mpr ⟨w_63 _, List.forall_mem_cons.mpr ⟨w_64, List.forall_mem_cons.mpr ⟨trivial, List.forall_mem_cons.mpr ⟨trivial, List.forall_mem_cons.mpr ⟨trivial, List.forall_mem_cons.mpr ⟨w_65, List.forall_mem_cons.mpr ⟨trivial, List.forall_mem_cons.mpr ⟨trivial, List.forall_mem_cons.mpr ⟨trivial, List.forall_mem_cons.mpr ⟨w_66, List.forall_mem_cons.mpr ⟨trivial, List.forall_mem_cons.mpr ⟨trivial, List.forall_mem_cons.mpr ⟨trivial, List.forall_mem_cons.mpr ⟨w_67, List.forall_mem_cons.mpr ⟨trivial, List.forall_mem_cons.mpr ⟨trivial, List.forall_mem_cons.mpr ⟨trivial, List.forall_mem_cons.mpr ⟨w_68, List.forall_mem_cons.mpr ⟨trivial, List.forall_mem_cons.mpr ⟨trivial, List.forall_mem_cons.mpr ⟨trivial, List.forall_mem_cons.mpr ⟨w_69, List.forall_mem_cons.mpr ⟨trivial, List.forall_mem_cons.mpr ⟨trivial, List.forall_mem_cons.mpr ⟨trivial, List.forall_mem_cons.mpr ⟨trivial, List.forall_mem_cons.mpr ⟨w_70 _, List.forall_mem_cons.mpr ⟨w_71 _, List.forall_mem_cons.mpr ⟨trivial, List.forall_mem_cons.mpr ⟨trivial, List.forall_mem_cons.mpr ⟨trivial, List.forall_mem_cons.mpr ⟨trivial, List.forall_mem_cons.mpr ⟨w_72 _, List.forall_mem_cons.mpr ⟨w_71 _, List.forall_mem_cons.mpr ⟨trivial, fun _ h => absurd h List.not_mem_nil⟩⟩⟩⟩⟩⟩⟩⟩⟩⟩⟩⟩⟩⟩⟩⟩⟩⟩⟩⟩⟩⟩⟩⟩⟩⟩⟩⟩⟩⟩⟩⟩⟩⟩⟩⟩⟩⟩⟩⟩
theorem ok_X3_init : ev_ok tbs t_X3_init := ⟨rfl, by decide +kernel, fun q hq => ⟨List.all_eq_true.mp kb_X3_init q hq, kw_X3_init q hq⟩⟩
set_option maxRecDepth 100000 in
theorem kb_X3_derive : t_X3_derive.2.all (fun q => ev_okB t_X3_derive.1.2.2.1 q.1 q.2) = true := by decide +kernel
set_option maxRecDepth 100000 in
set_option maxHeartbeats 4000000 in
theorem kw_X3_derive : ∀ q ∈ t_X3_derive.2, ev_okW tbs t_X3_derive.1.1 t_X3_derive.1.2.1.name q.2.2.2.1 q.2.2.2.2.1 q.2.2.2.2.2.1 q.2.2.2.2.2.2 q.2.1 := List.forall_mem_cons.mpr ⟨trivial, List.forall_mem_cons.mpr ⟨w_73 _, List.forall_mem_cons.mpr ⟨w_74 _, List.forall_mem_cons.mpr ⟨trivial, List.forall_mem_cons.mpr ⟨w_73 _, List.forall_mem_cons.mpr ⟨trivial, List.forall_mem_cons.mpr ⟨trivial, List.forall_mem_cons.mpr ⟨trivial, List.forall_mem_cons.mpr ⟨trivial, List.forall_mem_cons.mpr ⟨w_75 _, List.forall_mem_cons.mpr ⟨trivial, List.forall_mem_cons.mpr ⟨w_73 _, List.forall_mem_cons.mpr ⟨trivial, List.forall_mem_cons.mpr ⟨trivial, List.forall_mem_cons.mpr ⟨w_75 _, List.forall_mem_cons.mpr ⟨trivial, List.forall_mem_cons.mpr ⟨w_73 _, List.forall_mem_cons.mpr ⟨trivial, List.forall_mem_cons.mpr ⟨w_75 _, List.forall_mem_cons.mpr ⟨trivial, List.forall_mem_cons.mpr ⟨w_73 _, List.forall_mem_cons.mpr ⟨trivial, List.forall_mem_cons.mpr ⟨trivial, List.forall_mem_cons.mpr ⟨w_76 _, List.forall_mem_cons.mpr ⟨trivial, fun _ h => absurd h List.not_mem_nil⟩⟩⟩⟩⟩⟩⟩⟩⟩⟩⟩⟩⟩⟩⟩⟩⟩⟩⟩⟩⟩⟩⟩⟩⟩
theorem ok_X3_derive : ev_ok tbs t_X3_derive := ⟨rfl, by decide +kernel, fun q hq => ⟨List.all_eq_true.mp kb_X3_derive q hq, kw_X3_derive q hq⟩⟩
set_option maxRecDepth 100000 in
theorem kb_X3_sign : t_X3_sign.2.all (fun q => ev_okB t_X3_sign.1.2.2.1 q.1 q.2) = true := by decide +kernel
set_option maxRecDepth 100000 in
set_option maxHeartbeats 4000000 in
theorem kw_X3_sign : ∀ q ∈ t_X3_sign.2, ev_okW tbs t_X3_sign.1.1 t_X3_sign.1.2.1.name q.2.2.2.1 q.2.2.2.2.1 q.2.2.2.2.2.1 q.2.2.2.2.2.2 q.2.1 := List.forall_mem_cons.mpr ⟨trivial, List.forall_mem_cons.mpr ⟨w_77 _, List.forall_mem_cons.mpr ⟨w_78 _, List.forall_mem_cons.mpr ⟨trivial, List.forall_mem_cons.mpr ⟨w_73 _, List.forall_mem_cons.mpr ⟨trivial, List.forall_mem_cons.mpr ⟨trivial, List.forall_mem_cons.mpr ⟨w_79 _, List.forall_mem_cons.mpr ⟨trivial, List.forall_mem_cons.mpr ⟨w_73 _, List.forall_mem_cons.mpr ⟨trivial, List.forall_mem_cons.mpr ⟨w_80 _, List.forall_mem_cons.mpr ⟨trivial, List.forall_mem_cons.mpr ⟨w_76 _, List.forall_mem_cons.mpr ⟨trivial, List.forall_mem_cons.mpr ⟨w_81 _, List.forall_mem_cons.mpr ⟨w_78 _, List.forall_mem_cons.mpr ⟨trivial, List.forall_mem_cons.mpr ⟨w_73 _, List.forall_mem_cons.mpr ⟨trivial, List.forall_mem_cons.mpr ⟨w_80 _, List.forall_mem_cons.mpr ⟨trivial, List.forall_mem_cons.mpr ⟨w_79 _, List.forall_mem_cons.mpr ⟨trivial, List.forall_mem_cons.mpr ⟨w_73 _, List.forall_mem_cons.mpr ⟨trivial, List.forall_mem_cons.mpr ⟨trivial, List.forall_mem_cons.mpr ⟨w_76 _, List.forall_mem_cons.mpr ⟨trivial, fun _ h => absurd h List.not_mem_nil⟩⟩⟩⟩⟩⟩⟩⟩⟩⟩⟩⟩⟩⟩⟩⟩⟩⟩⟩⟩⟩⟩⟩⟩⟩⟩⟩⟩⟩
theorem ok_X3_sign : ev_ok tbs t_X3_sign := ⟨rfl, by decide +kernel, fun q hq => ⟨List.all_eq_true.mp kb_X3_sign q hq, kw_X3_sign q hq⟩⟩
set_option maxRecDepth 100000 in
theorem kb_X3_beginWithMark : t_X3_beginWithMark.2.all (fun q => ev_okB t_X3_beginWithMark.1.2.2.1 q.1 q.2) = true := by decide +kernel
set_option maxRecDepth 100000 in
set_option maxHeartbeats 4000000 in
theorem kw_X3_beginWithMark : ∀ q ∈ t_X3_beginWithMark.2, ev_okW tbs t_X3_beginWithMark.1.1 t_X3_beginWithMark.1.2.1.name q.2.2.2.1 q.2.2.2.2.1 q.2.2.2.2.2.1 q.2.2.2.2.2.2 q.2.1 := List.forall_mem_cons.mpr ⟨trivial, List.forall_mem_cons.mpr ⟨w_73 _, List.forall_mem_cons.mpr ⟨w_74 _, List.forall_mem_cons.mpr ⟨trivial, List.forall_mem_cons.mpr ⟨trivial, List.forall_mem_cons.mpr ⟨trivial, List.forall_mem_cons.mpr ⟨trivial, List.forall_mem_cons.mpr ⟨trivial, List.forall_mem_cons.mpr ⟨trivial, List.forall_mem_cons.mpr ⟨w_73 _, List.forall_mem_cons.mpr ⟨trivial, List.forall_mem_cons.mpr ⟨trivial, List.forall_mem_cons.mpr ⟨trivial, List.forall_mem_cons.mpr ⟨trivial, List.forall_mem_cons.mpr ⟨w_72 _, List.forall_mem_cons.mpr ⟨trivial, List.forall_mem_cons.mpr ⟨trivial, List.forall_mem_cons.mpr ⟨trivial, List.forall_mem_cons.mpr ⟨trivial, List.forall_mem_cons.mpr ⟨trivial, List.forall_mem_cons.mpr ⟨trivial, List.forall_mem_cons.mpr ⟨w_75 _, List.forall_mem_cons.mpr ⟨trivial, List.forall_mem_cons.mpr ⟨trivial, List.forall_mem_cons.mpr ⟨trivial, fun _ h => absurd h List.not_mem_nil⟩⟩⟩⟩⟩⟩⟩⟩⟩⟩⟩⟩⟩⟩⟩⟩⟩⟩⟩⟩⟩⟩⟩⟩⟩
theorem ok_X3_beginWithMark : ev_ok tbs t_X3_beginWithMark := ⟨rfl, by decide +kernel, fun q hq => ⟨List.all_eq_true.mp kb_X3_beginWithMark q hq, kw_X3_beginWithMark q hq⟩⟩
set_option maxRecDepth 100000 in
theorem kb_X3_cover : t_X3_cover.2.all (fun q => ev_okB t_X3_cover.1.2.2.1 q.1 q.2) = true := by decide +kernel
set_option maxRecDepth 100000 in
set_option maxHeartbeats 4000000 in
theorem kw_X3_cover : ∀ q ∈ t_X3_cover.2, ev_okW tbs t_X3_cover.1.1 t_X3_cover.1.2.1.name q.2.2.2.1 q.2.2.2.2.1 q.2.2.2.2.2.1 q.2.2.2.2.2.2 q.2.1 := List.forall_mem_cons.mpr ⟨trivial, List.forall_mem_cons.mpr ⟨trivial, List.forall_mem_cons.mpr ⟨trivial, List.forall_mem_cons.mpr ⟨trivial, List.forall_mem_cons.mpr ⟨trivial, List.forall_mem_cons.mpr ⟨trivial, List.forall_mem_cons.mpr ⟨trivial, List.forall_mem_cons.mpr ⟨trivial, List.forall_mem_cons.mpr ⟨trivial, List.forall_mem_cons.mpr ⟨trivial, List.forall_mem_cons.mpr ⟨trivial, List.forall_mem_cons.mpr ⟨w_82 _, List.forall_mem_cons.mpr ⟨trivial, List.forall_mem_cons.mpr ⟨trivial, List.forall_mem_cons.mpr ⟨trivial, List.forall_mem_cons.mpr ⟨trivial, List.forall_mem_cons.mpr ⟨trivial, List.forall_mem_cons.mpr ⟨trivial, List.forall_mem_cons.mpr ⟨trivial, List.forall_mem_cons.mpr ⟨trivial, List.forall_mem_cons.mpr ⟨trivial, List.forall_mem_cons.mpr ⟨trivial, List.forall_mem_cons.mpr ⟨trivial, List.forall_mem_cons.mpr ⟨trivial, List.forall_mem_cons.mpr ⟨trivial, List.forall_mem_cons.mpr ⟨trivial, List.forall_mem_cons.mpr ⟨trivial, List.forall_mem_cons.mpr ⟨trivial, List.forall_mem_cons.mpr ⟨trivial, List.forall_mem_cons.mpr ⟨trivial, List.forall_mem_cons.mpr ⟨w_83 _, List.forall_mem_cons.mpr ⟨trivial, List.forall_mem_cons.mpr ⟨trivial, List.forall_mem_cons.mpr ⟨trivial, List.forall_mem_cons.mpr ⟨trivial, List.forall_mem_cons.mpr ⟨trivial, List.forall_mem_cons.mpr ⟨trivial, List.forall_mem_cons.mpr ⟨trivial, List.forall_mem_cons.mpr ⟨trivial, List.forall_mem_cons.mpr ⟨trivial, fun _ h => absurd h List.not_mem_nil⟩⟩⟩⟩⟩⟩⟩⟩⟩⟩⟩⟩⟩⟩⟩⟩⟩⟩⟩⟩⟩⟩⟩⟩⟩⟩⟩⟩⟩⟩⟩⟩⟩⟩⟩⟩⟩⟩⟩⟩
theorem ok_X3_cover : ev_ok tbs t_X3_cover := ⟨rfl, by decide +kernel, fun q hq => ⟨List.all_eq_true.mp kb_X3_cover q hq, kw_X3_cover q hq⟩⟩
set_option maxRecDepth 100000 in
theorem kb_X3_makeBlock : t_X3_makeBlock.2.all (fun q => ev_okB t_X3_makeBlock.1.2.2.1 q.1 q.2) = true := by decide +kernel
set_option maxRecDepth 100000 in
set_option maxHeartbeats 4000000 in
theorem kw_X3_makeBlock : ∀ q ∈ t_X3_makeBlock.2, ev_okW tbs t_X3_makeBlock.1.1 t_X3_makeBlock.1.2.1.name q.2.2.2.1 q.2.2.2.2.1 q.2.2.2.2.2.1 q.2.2.2.2.2.2 q.2.1 := List.forall_mem_cons.mpr ⟨w_84 _, List.forall_mem_cons.mpr ⟨trivial, List.forall_mem_cons.mpr ⟨trivial, List.forall_mem_cons.mpr ⟨w_85 _, List.forall_mem_cons.mpr ⟨trivial, List.forall_mem_cons.mpr ⟨trivial, List.forall_mem_cons.mpr ⟨w_86 _, List.forall_mem_cons.mpr ⟨trivial, List.forall_mem_cons.mpr ⟨w_70 _, List.forall_mem_cons.mpr ⟨trivial, List.forall_mem_cons.mpr ⟨trivial, List.forall_mem_cons.mpr ⟨w_85 _, List.forall_mem_cons.mpr ⟨trivial, List.forall_mem_cons.mpr ⟨trivial, List.forall_mem_cons.mpr ⟨w_86 _, List.forall_mem_cons.mpr ⟨trivial, List.forall_mem_cons.mpr ⟨w_85 _, List.forall_mem_cons.mpr ⟨trivial, List.forall_mem_cons.mpr ⟨trivial, List.forall_mem_cons.mpr ⟨trivial, List.forall_mem_cons.mpr ⟨trivial, List.forall_mem_cons.mpr ⟨w_85 _, List.forall_mem_cons.mpr ⟨trivial, List.forall_mem_cons.mpr ⟨trivial, List.forall_mem_cons.mpr ⟨trivial, List.forall_mem_cons.mpr ⟨trivial, List.forall_mem_cons.mpr ⟨w_85 _, List.forall_mem_cons.mpr ⟨trivial, List.forall_mem_cons.mpr ⟨trivial, List.forall_mem_cons.mpr ⟨trivial, List.forall_mem_cons.mpr ⟨trivial, List.forall_mem_cons.mpr ⟨w_85 _, List.forall_mem_cons.mpr ⟨trivial, List.forall_mem_cons.mpr ⟨trivial, List.forall_mem_cons.mpr ⟨trivial, List.forall_mem_cons.mpr ⟨trivial, List.forall_mem_cons.mpr ⟨w_85 _, List.forall_mem_cons.mpr ⟨trivial, List.forall_mem_cons.mpr ⟨trivial, List.forall_mem_cons.mpr ⟨w_83 _, List.forall_mem_cons.mpr ⟨trivial, List.forall_mem_cons.mpr ⟨trivial, List.forall_mem_cons.mpr ⟨w_86 _, List.forall_mem_cons.mpr ⟨trivial, List.forall_mem_cons.mpr ⟨trivial, List.forall_mem_cons.mpr ⟨trivial, List.forall_mem_cons.mpr ⟨trivial, List.forall_mem_cons.mpr ⟨trivial, List.forall_mem_cons.mpr ⟨trivial, List.forall_mem_cons.mpr ⟨trivial, List.forall_mem_cons.mpr ⟨trivial, List.forall_mem_cons.mpr ⟨trivial, List.forall_mem_cons.mpr ⟨trivial, List.forall_mem_cons.mpr ⟨w_87 _, List.forall_mem_cons.mpr ⟨trivial, List.forall_mem_cons.mpr ⟨trivial, List.forall_mem_cons.mpr ⟨trivial, List.forall_mem_cons.mpr ⟨trivial, List.forall_mem_cons.mpr ⟨trivial, List.forall_mem_cons.mpr ⟨w_87 _, List.forall_mem_cons.mpr ⟨trivial, List.forall_mem_cons.mpr ⟨trivial, List.forall_mem_cons.mpr ⟨trivial, List.forall_mem_cons.mpr ⟨trivial, List.forall_mem_cons.mpr ⟨trivial, List.forall_mem_cons.mpr ⟨w_87 _, List.forall_mem_cons.mpr ⟨trivial, List.forall_mem_cons.mpr ⟨trivial, List.forall_mem_cons.mpr ⟨trivial, List.forall_mem_cons.mpr ⟨trivial, List.forall_mem_cons.mpr ⟨trivial, List.forall_mem_cons.mpr ⟨w_87 _, List.forall_mem_cons.mpr ⟨trivial, List.forall_mem_cons.mpr ⟨trivial, List.forall_mem_cons.mpr ⟨trivial, List.forall_mem_cons.mpr ⟨trivial, List.forall_mem_cons.mpr ⟨trivial, List.forall_mem_cons.mpr ⟨w_87 _, List.forall_mem_cons.mpr ⟨trivial, List.forall_mem_cons.mpr ⟨trivial, List.forall_mem_cons.mpr ⟨trivial, List.forall_mem_cons.mpr ⟨trivial, List.forall_mem_cons.mpr ⟨trivial, List.forall_mem_cons.mpr ⟨w_87 _, List.forall_mem_cons.mpr ⟨trivial, List.forall_mem_cons.mpr ⟨trivial, List.forall_mem_cons.mpr ⟨trivial, List.forall_mem_cons.mpr ⟨trivial, List.forall_mem_cons.mpr ⟨trivial, List.forall_mem_cons.mpr ⟨w_87 _, List.forall_mem_cons.mpr ⟨trivial, List.forall_mem_cons.mpr ⟨trivial, List.forall_mem_cons.mpr ⟨trivial, List.forall_mem_cons.mpr ⟨trivial, List.forall_mem_cons.mpr ⟨trivial, List.forall_mem_cons.mpr ⟨w_87 _, List.forall_mem_cons.mpr ⟨trivial, List.forall_mem_cons.mpr ⟨trivial, List.forall_mem_cons.mpr ⟨trivial, List.forall_mem_cons.mpr ⟨trivial, List.forall_mem_cons.mpr ⟨trivial, List.forall_mem_cons.mpr ⟨trivial, List.forall_mem_cons.mpr ⟨trivial, List.forall_mem_cons.mpr ⟨trivial, List.forall_mem_cons.mpr ⟨w_83 _, List.forall_mem_cons.mpr ⟨trivial, List.forall_mem_cons.mpr ⟨trivial, List.forall_mem_cons.mpr ⟨trivial, List.forall_mem_cons.mpr ⟨trivial, List.forall_mem_cons.mpr ⟨w_85 _, List.forall_mem_cons.mpr ⟨trivial, List.forall_mem_cons.mpr ⟨trivial, List.forall_mem_cons.mpr ⟨trivial, List.forall_mem_cons.mpr ⟨trivial, List.forall_mem_cons.mpr ⟨trivial, List.forall_mem_cons.mpr ⟨trivial, List.forall_mem_cons.mpr ⟨trivial, fun _ h => absurd h List.not_mem_nil⟩⟩⟩⟩⟩⟩⟩⟩⟩⟩⟩⟩⟩⟩⟩⟩⟩⟩⟩⟩⟩⟩⟩⟩⟩⟩⟩⟩⟩⟩⟩⟩⟩⟩⟩⟩⟩⟩⟩⟩⟩⟩⟩⟩⟩⟩⟩⟩⟩⟩⟩⟩⟩⟩⟩⟩⟩⟩⟩⟩⟩⟩⟩⟩⟩⟩⟩⟩⟩⟩⟩⟩⟩⟩⟩⟩⟩⟩⟩⟩⟩⟩⟩⟩⟩⟩⟩⟩⟩⟩⟩⟩⟩⟩⟩⟩⟩⟩⟩⟩⟩⟩⟩⟩⟩⟩⟩⟩⟩⟩⟩⟩⟩⟩⟩⟩⟩
theorem ok_X3_makeBlock : ev_ok tbs t_X3_makeBlock := ⟨rfl, by decide +kernel, fun q hq => ⟨List.all_eq_true.mp kb_X3_makeBlock q hq, kw_X3_makeBlock q hq⟩⟩
set_option maxRecDepth 100000 in
theorem kb_X3_mixQuarter : t_X3_mixQuarter.2.all (fun q => ev_okB t_X3_mixQuarter.1.2.2.1 q.1 q.2) = true := by decide +kernel
set_option maxRecDepth 100000 in
set_option maxHeartbeats 4000000 in
theorem kw_X3_mixQuarter : ∀ q ∈ t_X3_mixQuarter.2, ev_okW tbs t_X3_mixQuarter.1.1 t_X3_mixQuarter.1.2.1.name q.2.2.2.1 q.2.2.2.2.1 q.2.2.2.2.2.1 q.2.2.2.2.2.2 q.2.1 := List.forall_mem_cons.mpr ⟨trivial, List.forall_mem_cons.mpr ⟨w_83 _, List.forall_mem_cons.mpr ⟨trivial, List.forall_mem_cons.mpr ⟨trivial, List.forall_mem_cons.mpr ⟨trivial, List.forall_mem_cons.mpr ⟨trivial, List.forall_mem_cons.mpr ⟨w_83 _, List.forall_mem_cons.mpr ⟨trivial, List.forall_mem_cons.mpr ⟨trivial, List.forall_mem_cons.mpr ⟨trivial, List.forall_mem_cons.mpr ⟨trivial, List.forall_mem_cons.mpr ⟨trivial, List.forall_mem_cons.mpr ⟨w_83 _, List.forall_mem_cons.mpr ⟨trivial, List.forall_mem_cons.mpr ⟨trivial, List.forall_mem_cons.mpr ⟨w_83 _, List.forall_mem_cons.mpr ⟨trivial, List.forall_mem_cons.mpr ⟨trivial, List.forall_mem_cons.mpr ⟨trivial, List.forall_mem_cons.mpr ⟨w_83 _, List.forall_mem_cons.mpr ⟨trivial, List.forall_mem_cons.mpr ⟨trivial, List.forall_mem_cons.mpr ⟨trivial, List.forall_mem_cons.mpr ⟨trivial, List.forall_mem_cons.mpr ⟨w_88 _, List.forall_mem_cons.mpr ⟨trivial, List.forall_mem_cons.mpr ⟨trivial, List.forall_mem_cons.mpr ⟨w_83 _, List.forall_mem_cons.mpr ⟨trivial, List.forall_mem_cons.mpr ⟨trivial, List.forall_mem_cons.mpr ⟨trivial, List.forall_mem_cons.mpr ⟨trivial, List.forall_mem_cons.mpr ⟨w_83 _, List.forall_mem_cons.mpr ⟨trivial, List.forall_mem_cons.mpr ⟨trivial, List.forall_mem_cons.mpr ⟨trivial, List.forall_mem_cons.mpr ⟨trivial, List.forall_mem_cons.mpr ⟨trivial, List.forall_mem_cons.mpr ⟨w_83 _, List.forall_mem_cons.mpr ⟨trivial, List.forall_mem_cons.mpr ⟨trivial, List.forall_mem_cons.mpr ⟨w_83 _, List.forall_mem_cons.mpr ⟨trivial, List.forall_mem_cons.mpr ⟨trivial, List.forall_mem_cons.mpr ⟨trivial, List.forall_mem_cons.mpr ⟨w_83 _, List.forall_mem_cons.mpr ⟨trivial, List.forall_mem_cons.mpr ⟨trivial, List.forall_mem_cons.mpr ⟨trivial, List.forall_mem_cons.mpr ⟨trivial, List.forall_mem_cons.mpr ⟨w_88 _, List.forall_mem_cons.mpr ⟨trivial, List.forall_mem_cons.mpr ⟨trivial, List.forall_mem_cons.mpr ⟨w_83 _, List.forall_mem_cons.mpr ⟨trivial, List.forall_mem_cons.mpr ⟨trivial, List.forall_mem_cons.mpr ⟨trivial, List.forall_mem_cons.mpr ⟨trivial, List.forall_mem_cons.mpr ⟨w_83 _, List.forall_mem_cons.mpr ⟨trivial, List.forall_mem_cons.mpr ⟨trivial, List.forall_mem_cons.mpr ⟨trivial, List.forall_mem_cons.mpr ⟨trivial, List.forall_mem_cons.mpr ⟨trivial, List.forall_mem_cons.mpr ⟨w_83 _, List.forall_mem_cons.mpr ⟨trivial, List.forall_mem_cons.mpr ⟨trivial, List.forall_mem_cons.mpr ⟨w_83 _, List.forall_mem_cons.mpr ⟨trivial, List.forall_mem_cons.mpr ⟨trivial, List.forall_mem_cons.mpr ⟨trivial, List.forall_mem_cons.mpr ⟨w_83 _, List.forall_mem_cons.mpr ⟨trivial, List.forall_mem_cons.mpr ⟨trivial, List.forall_mem_cons.mpr ⟨trivial, List.forall_mem_cons.mpr ⟨trivial, List.forall_mem_cons.mpr ⟨w_88 _, List.forall_mem_cons.mpr ⟨trivial, List.forall_mem_cons.mpr ⟨trivial, List.forall_mem_cons.mpr ⟨w_83 _, List.forall_mem_cons.mpr ⟨trivial, List.forall_mem_cons.mpr ⟨trivial, List.forall_mem_cons.mpr ⟨trivial, List.forall_mem_cons.mpr ⟨trivial, List.forall_mem_cons.mpr ⟨w_83 _, List.forall_mem_cons.mpr ⟨trivial, List.forall_mem_cons.mpr ⟨trivial, List.forall_mem_cons.mpr ⟨trivial, List.forall_mem_cons.mpr ⟨trivial, List.forall_mem_cons.mpr ⟨trivial, List.forall_mem_cons.mpr ⟨w_83 _, List.forall_mem_cons.mpr ⟨trivial, List.forall_mem_cons.mpr ⟨trivial, List.forall_mem_cons.mpr ⟨w_83 _, List.forall_mem_cons.mpr ⟨trivial, List.forall_mem_cons.mpr ⟨trivial, List.forall_mem_cons.mpr ⟨trivial, List.forall_mem_cons.mpr ⟨w_83 _, List.forall_mem_cons.mpr ⟨trivial, List.forall_mem_cons.mpr ⟨trivial, List.forall_mem_cons.mpr ⟨trivial, List.forall_mem_cons.mpr ⟨trivial, List.forall_mem_cons.mpr ⟨w_88 _, List.forall_mem_cons.mpr ⟨trivial, List.forall_mem_cons.mpr ⟨trivial, fun _ h => absurd h List.not_mem_nil⟩⟩⟩⟩⟩⟩⟩⟩⟩⟩⟩⟩⟩⟩⟩⟩⟩⟩⟩⟩⟩⟩⟩⟩⟩⟩⟩⟩⟩⟩⟩⟩⟩⟩⟩⟩⟩⟩⟩⟩⟩⟩⟩⟩⟩⟩⟩⟩⟩⟩⟩⟩⟩⟩⟩⟩⟩⟩⟩⟩⟩⟩⟩⟩⟩⟩⟩⟩⟩⟩⟩⟩⟩⟩⟩⟩⟩⟩⟩⟩⟩⟩⟩⟩⟩⟩⟩⟩⟩⟩⟩⟩⟩⟩⟩⟩⟩⟩⟩⟩⟩⟩⟩⟩⟩
theorem ok_X3_mixQuarter : ev_ok tbs t_X3_mixQuarter := ⟨rfl, by decide +kernel, fun q hq => ⟨List.all_eq_true.mp kb_X3_mixQuarter q hq, kw_X3_mixQuarter q hq⟩⟩
set_option maxRecDepth 100000 in
theorem kb_X3_turnLeft : t_X3_turnLeft.2.all (fun q => ev_okB t_X3_turnLeft.1.2.2.1 q.1 q.2) = true := by decide +kernel
set_option maxRecDepth 100000 in
set_option maxHeartbeats 4000000 in
theorem kw_X3_turnLeft : ∀ q ∈ t_X3_turnLeft.2, ev_okW tbs t_X3_turnLeft.1.1 t_X3_turnLeft.1.2.1.name q.2.2.2.1 q.2.2.2.2.1 q.2.2.2.2.2.1 q.2.2.2.2.2.2 q.2.1 := List.forall_mem_cons.mpr ⟨trivial, List.forall_mem_cons.mpr ⟨trivial, List.forall_mem_cons.mpr ⟨trivial, List.forall_mem_cons.mpr ⟨trivial, List.forall_mem_cons.mpr ⟨trivial, List.forall_mem_cons.mpr ⟨trivial, List.forall_mem_cons.mpr ⟨trivial, List.forall_mem_cons.mpr ⟨trivial, List.forall_mem_cons.mpr ⟨trivial, List.forall_mem_cons.mpr ⟨trivial, fun _ h => absurd h List.not_mem_nil⟩⟩⟩⟩⟩⟩⟩⟩⟩⟩
theorem ok_X3_turnLeft : ev_ok tbs t_X3_turnLeft := ⟨rfl, by decide +kernel, fun q hq => ⟨List.all_eq_true.mp kb_X3_turnLeft q hq, kw_X3_turnLeft q hq⟩⟩
end
section
set_option maxRecDepth 100000 in
theorem kb_X4_init : t_X4_init.2.all (fun q => ev_okB t_X4_init.1.2.2.1 q.1 q.2) = true := by decide +kernel
set_option maxRecDepth 100000 in
set_option maxHeartbeats 4000000 in
theorem kw_X4_init : ∀ q ∈ t_X4_init.2, ev_okW tbs t_X4_init.1.1 t_X4_init.1.2.1.name q.2.2.2.1 q.2.2.2.2.1 q.2.2.2.2.2.1 q.2.2.2.2.2.2 q.2.1 := List.forall_mem_cons.mpr ⟨trivial, List.forall_mem_cons.mpr ⟨w_89 _, List.forall_mem_cons.mpr ⟨trivial, List.forall_mem_cons.mpr ⟨trivial, List.forall_mem_cons.mpr ⟨trivial, List.forall_mem_cons.mpr ⟨w_90, List.forall_mem_cons.mpr ⟨trivial, List.forall_mem_cons.mpr ⟨trivial, List.forall_mem_cons.mpr ⟨trivial, List.forall_mem_cons.mpr ⟨w_91, List.forall_mem_cons.mpr ⟨trivial, List.forall_mem_cons.mpr ⟨w_92 _, List.forall_mem_cons.mpr ⟨trivial, List.forall_mem_cons.mpr ⟨w_93 _, List.forall_mem_cons.mpr ⟨w_94, List.forall_mem_cons.mpr ⟨trivial, List.forall_mem_cons.mpr ⟨w_95 _, List.forall_mem_cons.mpr ⟨trivial, List.forall_mem_cons.mpr ⟨w_96 _, List.forall_mem_cons.mpr ⟨w_97, List.forall_mem_cons.mpr ⟨trivial, List.forall_mem_cons.mpr ⟨trivial, List.forall_mem_cons.mpr ⟨trivial, List.forall_mem_cons.mpr ⟨trivial, List.forall_mem_cons.mpr ⟨trivial, List.forall_mem_cons.mpr ⟨trivial, List.forall_mem_cons.mpr ⟨trivial, List.forall_mem_cons.mpr ⟨trivial, List.forall_mem_cons.mpr ⟨trivial, List.forall_mem_cons.mpr ⟨trivial, List.forall_mem_cons.mpr ⟨trivial, List.forall_mem_cons.mpr ⟨trivial, List.forall_mem_cons.mpr ⟨w_98 _, List.forall_mem_cons.mpr ⟨w_99, List.forall_mem_cons.mpr ⟨trivial, List.forall_mem_cons.mpr ⟨trivial, List.forall_mem_cons.mpr ⟨trivial, List.forall_mem_cons.mpr ⟨trivial, List.forall_mem_cons.mpr ⟨trivial, List.forall_mem_cons.mpr ⟨trivial, List.forall_mem_cons.mpr ⟨w_100 _, List.forall_mem_cons.mpr ⟨trivial, List.forall_mem_cons.mpr ⟨w_101 _, List.forall_mem_cons.mpr ⟨trivial, List.forall_mem_cons.mpr ⟨w_102 _, List.forall_mem_cons.mpr ⟨trivial, List.forall_mem_cons.mpr ⟨trivial, List.forall_mem_cons.mpr ⟨trivial, List.forall_mem_cons.mpr ⟨trivial, List.forall_mem_cons.mpr ⟨w_103 _, List.forall_mem_cons.mpr ⟨trivial, List.forall_mem_cons.mpr ⟨trivial, List.forall_mem_cons.mpr ⟨w_104 _, List.forall_mem_cons.mpr ⟨w_105, List.forall_mem_cons.mpr ⟨trivial, fun _ h => absurd h List.not_mem_nil⟩⟩⟩⟩⟩⟩⟩⟩⟩⟩⟩⟩⟩⟩⟩⟩⟩⟩⟩⟩⟩⟩⟩⟩⟩⟩⟩⟩⟩⟩⟩⟩⟩⟩⟩⟩⟩⟩⟩⟩⟩⟩⟩⟩⟩⟩⟩⟩⟩⟩⟩⟩⟩⟩⟩
theorem ok_X4_init : ev_ok tbs t_X4_init := ⟨rfl, by decide +kernel, fun q hq => ⟨List.all_eq_true.mp kb_X4_init q hq, kw_X4_init q hq⟩⟩
set_option maxRecDepth 100000 in
theorem kb_X4_poke : t_X4_poke.2.all (fun q => ev_okB t_X4_poke.1.2.2.1 q.1 q.2) = true := by decide +kernel
set_option maxRecDepth 100000 in
set_option maxHeartbeats 4000000 in
theorem kw_X4_poke : ∀ q ∈ t_X4_poke.2, ev_okW tbs t_X4_poke.1.1 t_X4_poke.1.2.1.name q.2.2.2.1 q.2.2.2.2.1 q.2.2.2.2.2.1 q.2.2.2.2.2.2 q.2.1 := List.forall_mem_cons.mpr ⟨trivial, List.forall_mem_cons.mpr ⟨trivial, List.forall_mem_cons.mpr ⟨w_106 _, List.forall_mem_cons.mpr ⟨trivial, List.forall_mem_cons.mpr ⟨trivial, List.forall_mem_cons.mpr ⟨trivial, List.forall_mem_cons.mpr ⟨w_107 _, List.forall_mem_cons.mpr ⟨trivial, List.forall_mem_cons.mpr ⟨trivial, List.forall_mem_cons.mpr ⟨trivial, List.forall_mem_cons.mpr ⟨trivial, fun _ h => absurd h List.not_mem_nil⟩⟩⟩⟩⟩⟩⟩⟩⟩⟩⟩
theorem ok_X4_poke : ev_ok tbs t_X4_poke := ⟨rfl, by decide +kernel, fun q hq => ⟨List.all_eq_true.mp kb_X4_poke q hq, kw_X4_poke q hq⟩⟩
set_option maxRecDepth 100000 in
theorem kb_X4_buffer : t_X4_buffer.2.all (fun q => ev_okB t_X4_buffer.1.2.2.1 q.1 q.2) = true := by decide +kernel
set_option maxRecDepth 100000 in
set_option maxHeartbeats 4000000 in
theorem kw_X4_buffer : ∀ q ∈ t_X4_buffer.2, ev_okW tbs t_X4_buffer.1.1 t_X4_buffer.1.2.1.name q.2.2.2.1 q.2.2.2.2.1 q.2.2.2.2.2.1 q.2.2.2.2.2.2 q.2.1 := List.forall_mem_cons.mpr ⟨trivial, List.forall_mem_cons.mpr ⟨trivial, List.forall_mem_cons.mpr ⟨w_106 _, List.forall_mem_cons.mpr ⟨trivial, List.forall_mem_cons.mpr ⟨trivial, List.forall_mem_cons.mpr ⟨trivial, List.forall_mem_cons.mpr ⟨w_107 _, List.forall_mem_cons.mpr ⟨trivial, List.forall_mem_cons.mpr ⟨trivial, List.forall_mem_cons.mpr ⟨trivial, fun _ h => absurd h List.not_mem_nil⟩⟩⟩⟩⟩⟩⟩⟩⟩⟩
theorem ok_X4_buffer : ev_ok tbs t_X4_buffer := ⟨rfl, by decide +kernel, fun q hq => ⟨List.all_eq_true.mp kb_X4_buffer q hq, kw_X4_buffer q hq⟩⟩
set_option maxRecDepth 100000 in
theorem kb_X4_create : t_X4_create.2.all (fun q => ev_okB t_X4_create.1.2.2.1 q.1 q.2) = true := by decide +kernel
set_option maxRecDepth 100000 in
set_option maxHeartbeats 4000000 in
theorem kw_X4_create : ∀ q ∈ t_X4_create.2, ev_okW tbs t_X4_create.1.1 t_X4_create.1.2.1.name q.2.2.2.1 q.2.2.2.2.1 q.2.2.2.2.2.1 q.2.2.2.2.2.2 q.2.1 := List.forall_mem_cons.mpr ⟨trivial, List.forall_mem_cons.mpr ⟨trivial, List.forall_mem_cons.mpr ⟨trivial, List.forall_mem_cons.mpr ⟨w_108 _, List.forall_mem_cons.mpr ⟨trivial, List.forall_mem_cons.mpr ⟨trivial, List.forall_mem_cons.mpr ⟨trivial, List.forall_mem_cons.mpr ⟨trivial, List.forall_mem_cons.mpr ⟨trivial, List.forall_mem_cons.mpr ⟨w_109 _, List.forall_mem_cons.mpr ⟨trivial, List.forall_mem_cons.mpr ⟨trivial, List.forall_mem_cons.mpr ⟨w_110 _, List.forall_mem_cons.mpr ⟨trivial, List.forall_mem_cons.mpr ⟨w_100 _, List.forall_mem_cons.mpr ⟨trivial, List.forall_mem_cons.mpr ⟨trivial, List.forall_mem_cons.mpr ⟨trivial, List.forall_mem_cons.mpr ⟨w_111 _, List.forall_mem_cons.mpr ⟨trivial, List.forall_mem_cons.mpr ⟨w_100 _, List.forall_mem_cons.mpr ⟨trivial, List.forall_mem_cons.mpr ⟨trivial, List.forall_mem_cons.mpr ⟨trivial, List.forall_mem_cons.mpr ⟨w_112 _, List.forall_mem_cons.mpr ⟨trivial, List.forall_mem_cons.mpr ⟨w_100 _, List.forall_mem_cons.mpr ⟨trivial, List.forall_mem_cons.mpr ⟨trivial, List.forall_mem_cons.mpr ⟨trivial, List.forall_mem_cons.mpr ⟨w_109 _, List.forall_mem_cons.mpr ⟨w_113 _, List.forall_mem_cons.mpr ⟨trivial, List.forall_mem_cons.mpr ⟨trivial, fun _ h => absurd h List.not_mem_nil⟩⟩⟩⟩⟩⟩⟩⟩⟩⟩⟩⟩⟩⟩⟩⟩⟩⟩⟩⟩⟩⟩⟩⟩⟩⟩⟩⟩⟩⟩⟩⟩⟩⟩
theorem ok_X4_create : ev_ok tbs t_X4_create := ⟨rfl, by decide +kernel, fun q hq => ⟨List.all_eq_true.mp kb_X4_create q hq, kw_X4_create q hq⟩⟩
set_option maxRecDepth 100000 in
theorem kb_X4_thread : t_X4_thread.2.all (fun q => ev_okB t_X4_thread.1.2.2.1 q.1 q.2) = true := by decide +kernel
set_option maxRecDepth 100000 in
set_option maxHeartbeats 4000000 in
theorem kw_X4_thread : ∀ q ∈ t_X4_thread.2, ev_okW tbs t_X4_thread.1.1 t_X4_thread.1.2.1.name q.2.2.2.1 q.2.2.2.2.1 q.2.2.2.2.2.1 q.2.2.2.2.2.2 q.2.1 := List.forall_mem_cons.mpr ⟨trivial, List.forall_mem_cons.mpr ⟨trivial, List.forall_mem_cons.mpr ⟨trivial, List.forall_mem_cons.mpr ⟨w_114 _, List.forall_mem_cons.mpr ⟨trivial, List.forall_mem_cons.mpr ⟨trivial, List.forall_mem_cons.mpr ⟨trivial, List.forall_mem_cons.mpr ⟨trivial, List.forall_mem_cons.mpr ⟨trivial, List.forall_mem_cons.mpr ⟨trivial, List.forall_mem_cons.mpr ⟨trivial, List.forall_mem_cons.mpr ⟨w_106 _, List.forall_mem_cons.mpr ⟨trivial, List.forall_mem_cons.mpr ⟨trivial, List.forall_mem_cons.mpr ⟨trivial, List.forall_mem_cons.mpr ⟨trivial, List.forall_mem_cons.mpr ⟨w_100 _, List.forall_mem_cons.mpr ⟨trivial, List.forall_mem_cons.mpr ⟨trivial, List.forall_mem_cons.mpr ⟨trivial, List.forall_mem_cons.mpr ⟨trivial, List.forall_mem_cons.mpr ⟨trivial, List.forall_mem_cons.mpr ⟨trivial, List.forall_mem_cons.mpr ⟨w_115 _, List.forall_mem_cons.mpr ⟨trivial, List.forall_mem_cons.mpr ⟨w_116 _, List.forall_mem_cons.mpr ⟨trivial, List.forall_mem_cons.mpr ⟨trivial, List.forall_mem_cons.mpr ⟨trivial, List.forall_mem_cons.mpr ⟨trivial, List.forall_mem_cons.mpr ⟨trivial, List.forall_mem_cons.mpr ⟨w_100 _, List.forall_mem_cons.mpr ⟨trivial, List.forall_mem_cons.mpr ⟨trivial, List.forall_mem_cons.mpr ⟨trivial, List.forall_mem_cons.mpr ⟨trivial, List.forall_mem_cons.mpr ⟨w_117 _, List.forall_mem_cons.mpr ⟨trivial, List.forall_mem_cons.mpr ⟨trivial, fun _ h => absurd h List.not_mem_nil⟩⟩⟩⟩⟩⟩⟩⟩⟩⟩⟩⟩⟩⟩⟩⟩⟩⟩⟩⟩⟩⟩⟩⟩⟩⟩⟩⟩⟩⟩⟩⟩⟩⟩⟩⟩⟩⟩⟩
theorem ok_X4_thread : ev_ok tbs t_X4_thread := ⟨rfl, by decide +kernel, fun q hq => ⟨List.all_eq_true.mp kb_X4_thread q hq, kw_X4_thread q hq⟩⟩
set_option maxRecDepth 100000 in
theorem kb_X4_data : t_X4_data.2.all (fun q => ev_okB t_X4_data.1.2.2.1 q.1 q.2) = true := by decide +kernel
set_option maxRecDepth 100000 in
set_option maxHeartbeats 4000000 in
theorem kw_X4_data : ∀ q ∈ t_X4_data.2, ev_okW tbs t_X4_data.1.1 t_X4_data.1.2.1.name q.2.2.2.1 q.2.2.2.2.1 q.2.2.2.2.2.1 q.2.2.2.2.2.2 q.2.1 := List.forall_mem_cons.mpr ⟨trivial, List.forall_mem_cons.mpr ⟨trivial, List.forall_mem_cons.mpr ⟨trivial, List.forall_mem_cons.mpr ⟨w_114 _, List.forall_mem_cons.mpr ⟨trivial, List.forall_mem_cons.mpr ⟨trivial, List.forall_mem_cons.mpr ⟨trivial, List.forall_mem_cons.mpr ⟨trivial, List.forall_mem_cons.mpr ⟨trivial, List.forall_mem_cons.mpr ⟨trivial, List.forall_mem_cons.mpr ⟨trivial, List.forall_mem_cons.mpr ⟨w_106 _, List.forall_mem_cons.mpr ⟨trivial, List.forall_mem_cons.mpr ⟨trivial, List.forall_mem_cons.mpr ⟨trivial, List.forall_mem_cons.mpr ⟨trivial, List.forall_mem_cons.mpr ⟨trivial, List.forall_mem_cons.mpr ⟨trivial, List.forall_mem_cons.mpr ⟨trivial, List.forall_mem_cons.mpr ⟨trivial, List.forall_mem_cons.mpr ⟨trivial, List.forall_mem_cons.mpr ⟨w_118 _, List.forall_mem_cons.mpr ⟨trivial, List.forall_mem_cons.mpr ⟨trivial, List.forall_mem_cons.mpr ⟨trivial, List.forall_mem_cons.mpr ⟨trivial, List.forall_mem_cons.mpr ⟨w_100 _, List.forall_mem_cons.mpr ⟨trivial, List.forall_mem_cons.mpr ⟨trivial, List.forall_mem_cons.mpr ⟨trivial, List.forall_mem_cons.mpr ⟨trivial, List.forall_mem_cons.mpr ⟨trivial, List.forall_mem_cons.mpr ⟨trivial, List.forall_mem_cons.mpr ⟨w_115 _, List.forall_mem_cons.mpr ⟨trivial, List.forall_mem_cons.mpr ⟨trivial, List.forall_mem_cons.mpr ⟨w_119 _, List.forall_mem_cons.mpr ⟨trivial, List.forall_mem_cons.mpr ⟨trivial, List.forall_mem_cons.mpr ⟨w_120 _, List.forall_mem_cons.mpr ⟨trivial, List.forall_mem_cons.mpr ⟨w_107 _, List.forall_mem_cons.mpr ⟨trivial, List.forall_mem_cons.mpr ⟨trivial, List.forall_mem_cons.mpr ⟨w_116 _, List.forall_mem_cons.mpr ⟨trivial, List.forall_mem_cons.mpr ⟨trivial, List.forall_mem_cons.mpr ⟨w_121 _, List.forall_mem_cons.mpr ⟨trivial, List.forall_mem_cons.mpr ⟨trivial, List.forall_mem_cons.mpr ⟨w_100 _, List.forall_mem_cons.mpr ⟨trivial, List.forall_mem_cons.mpr ⟨trivial, List.forall_mem_cons.mpr ⟨trivial, List.forall_mem_cons.mpr ⟨trivial, List.forall_mem_cons.mpr ⟨w_117 _, List.forall_mem_cons.mpr ⟨trivial, List.forall_mem_cons.mpr ⟨trivial, fun _ h => absurd h List.not_mem_nil⟩⟩⟩⟩⟩⟩⟩⟩⟩⟩⟩⟩⟩⟩⟩⟩⟩⟩⟩⟩⟩⟩⟩⟩⟩⟩⟩⟩⟩⟩⟩⟩⟩⟩⟩⟩⟩⟩⟩⟩⟩⟩⟩⟩⟩⟩⟩⟩⟩⟩⟩⟩⟩⟩⟩⟩⟩⟩
theorem ok_X4_data : ev_ok tbs t_X4_data := ⟨rfl, by decide +kernel, fun q hq => ⟨List.all_eq_true.mp kb_X4_data q hq, kw_X4_data q hq⟩⟩
set_option maxRecDepth 100000 in
theorem kb_X4_versions : t_X4_versions.2.all (fun q => ev_okB t_X4_versions.1.2.2.1 q.1 q.2) = true := by decide +kernel
set_option maxRecDepth 100000 in
set_option maxHeartbeats 4000000 in
theorem kw_X4_versions : ∀ q ∈ t_X4_versions.2, ev_okW tbs t_X4_versions.1.1 t_X4_versions.1.2.1.name q.2.2.2.1 q.2.2.2.2.1 q.2.2.2.2.2.1 q.2.2.2.2.2.2 q.2.1 := List.forall_mem_cons.mpr ⟨trivial, List.forall_mem_cons.mpr ⟨trivial, List.forall_mem_cons.mpr ⟨trivial, List.forall_mem_cons.mpr ⟨w_108 _, List.forall_mem_cons.mpr ⟨trivial, List.forall_mem_cons.mpr ⟨trivial, List.forall_mem_cons.mpr ⟨trivial, List.forall_mem_cons.mpr ⟨trivial, List.forall_mem_cons.mpr ⟨w_100 _, List.forall_mem_cons.mpr ⟨trivial, List.forall_mem_cons.mpr ⟨trivial, List.forall_mem_cons.mpr ⟨trivial, List.forall_mem_cons.mpr ⟨w_111 _, List.forall_mem_cons.mpr ⟨trivial, List.forall_mem_cons.mpr ⟨trivial, fun _ h => absurd h List.not_mem_nil⟩⟩⟩⟩⟩⟩⟩⟩⟩⟩⟩⟩⟩⟩⟩
theorem ok_X4_versions : ev_ok tbs t_X4_versions := ⟨rfl, by decide +kernel, fun q hq => ⟨List.all_eq_true.mp kb_X4_versions q hq, kw_X4_versions q hq⟩⟩
set_option maxRecDepth 100000 in
theorem kb_X4_finalise : t_X4_finalise.2.all (fun q => ev_okB t_X4_finalise.1.2.2.1 q.1 q.2) = true := by decide +kernel
set_option maxRecDepth 100000 in
set_option maxHeartbeats 4000000 in
theorem kw_X4_finalise : ∀ q ∈ t_X4_finalise.2, ev_okW tbs t_X4_finalise.1.1 t_X4_finalise.1.2.1.name q.2.2.2.1 q.2.2.2.2.1 q.2.2.2.2.2.1 q.2.2.2.2.2.2 q.2.1 := List.forall_mem_cons.mpr ⟨trivial, List.forall_mem_cons.mpr ⟨trivial, List.forall_mem_cons.mpr ⟨trivial, List.forall_mem_cons.mpr ⟨w_108 _, List.forall_mem_cons.mpr ⟨trivial, List.forall_mem_cons.mpr ⟨trivial, List.forall_mem_cons.mpr ⟨trivial, List.forall_mem_cons.mpr ⟨trivial, List.forall_mem_cons.mpr ⟨trivial, List.forall_mem_cons.mpr ⟨w_122 _, List.forall_mem_cons.mpr ⟨trivial, List.forall_mem_cons.mpr ⟨trivial, List.forall_mem_cons.mpr ⟨trivial, List.forall_mem_cons.mpr ⟨trivial, List.forall_mem_cons.mpr ⟨w_100 _, List.forall_mem_cons.mpr ⟨trivial, List.forall_mem_cons.mpr ⟨trivial, List.forall_mem_cons.mpr ⟨trivial, List.forall_mem_cons.mpr ⟨trivial, List.forall_mem_cons.mpr ⟨trivial, List.forall_mem_cons.mpr ⟨w_112 _, List.forall_mem_cons.mpr ⟨trivial, List.forall_mem_cons.mpr ⟨w_123 _, List.forall_mem_cons.mpr ⟨w_124 _, List.forall_mem_cons.mpr ⟨trivial, List.forall_mem_cons.mpr ⟨w_123 _, List.forall_mem_cons.mpr ⟨trivial, List.forall_mem_cons.mpr ⟨w_125 _, List.forall_mem_cons.mpr ⟨trivial, List.forall_mem_cons.mpr ⟨w_126 _, List.forall_mem_cons.mpr ⟨trivial, List.forall_mem_cons.mpr ⟨w_123 _, List.forall_mem_cons.mpr ⟨trivial, List.forall_mem_cons.mpr ⟨w_127 _, List.forall_mem_cons.mpr ⟨trivial, List.forall_mem_cons.mpr ⟨w_123 _, List.forall_mem_cons.mpr ⟨trivial, List.forall_mem_cons.mpr ⟨w_125 _, List.forall_mem_cons.mpr ⟨trivial, List.forall_mem_cons.mpr ⟨w_128 _, List.forall_mem_cons.mpr ⟨trivial, List.forall_mem_cons.mpr ⟨trivial, fun _ h => absurd h List.not_mem_nil⟩⟩⟩⟩⟩⟩⟩⟩⟩⟩⟩⟩⟩⟩⟩⟩⟩⟩⟩⟩⟩⟩⟩⟩⟩⟩⟩⟩⟩⟩⟩⟩⟩⟩⟩⟩⟩⟩⟩⟩⟩⟩
theorem ok_X4_finalise : ev_ok tbs t_X4_finalise := ⟨rfl, by decide +kernel, fun q hq => ⟨List.all_eq_true.mp kb_X4_finalise q hq, kw_X4_finalise q hq⟩⟩
set_option maxRecDepth 100000 in
theorem kb_X4_stop : t_X4_stop.2.all (fun q => ev_okB t_X4_stop.1.2.2.1 q.1 q.2) = true := by decide +kernel
set_option maxRecDepth 100000 in
set_option maxHeartbeats 4000000 in
theorem kw_X4_stop : ∀ q ∈ t_X4_stop.2, ev_okW tbs t_X4_stop.1.1 t_X4_stop.1.2.1.name q.2.2.2.1 q.2.2.2.2.1 q.2.2.2.2.2.1 q.2.2.2.2.2.2 q.2.1 := List.forall_mem_cons.mpr ⟨trivial, List.forall_mem_cons.mpr ⟨trivial, List.forall_mem_cons.mpr ⟨trivial, List.forall_mem_cons.mpr ⟨w_108 _, List.forall_mem_cons.mpr ⟨trivial, List.forall_mem_cons.mpr ⟨trivial, List.forall_mem_cons.mpr ⟨trivial, List.forall_mem_cons.mpr ⟨trivial, List.forall_mem_cons.mpr ⟨trivial, List.forall_mem_cons.mpr ⟨w_122 _, List.forall_mem_cons.mpr ⟨trivial, List.forall_mem_cons.mpr ⟨trivial, List.forall_mem_cons.mpr ⟨trivial, List.forall_mem_cons.mpr ⟨trivial, List.forall_mem_cons.mpr ⟨trivial, List.forall_mem_cons.mpr ⟨w_100 _, List.forall_mem_cons.mpr ⟨trivial, List.forall_mem_cons.mpr ⟨trivial, List.forall_mem_cons.mpr ⟨trivial, List.forall_mem_cons.mpr ⟨w_112 _, List.forall_mem_cons.mpr ⟨trivial, List.forall_mem_cons.mpr ⟨trivial, fun _ h => absurd h List.not_mem_nil⟩⟩⟩⟩⟩⟩⟩⟩⟩⟩⟩⟩⟩⟩⟩⟩⟩⟩⟩⟩⟩⟩
theorem ok_X4_stop : ev_ok tbs t_X4_stop := ⟨rfl, by decide +kernel, fun q hq => ⟨List.all_eq_true.mp kb_X4_stop q hq, kw_X4_stop q hq⟩⟩
set_option maxRecDepth 100000 in
theorem kb_X4_remove : t_X4_remove.2.all (fun q => ev_okB t_X4_remove.1.2.2.1 q.1 q.2) = true := by decide +kernel
set_option maxRecDepth 100000 in
set_option maxHeartbeats 4000000 in
theorem kw_X4_remove : ∀ q ∈ t_X4_remove.2, ev_okW tbs t_X4_remove.1.1 t_X4_remove.1.2.1.name q.2.2.2.1 q.2.2.2.2.1 q.2.2.2.2.2.1 q.2.2.2.2.2.2 q.2.1 := List.forall_mem_cons.mpr ⟨trivial, List.forall_mem_cons.mpr ⟨trivial, List.forall_mem_cons.mpr ⟨w_100 _, List.forall_mem_cons.mpr ⟨trivial, List.forall_mem_cons.mpr ⟨w_106 _, List.forall_mem_cons.mpr ⟨trivial, List.forall_mem_cons.mpr ⟨trivial, List.forall_mem_cons.mpr ⟨trivial, List.forall_mem_cons.mpr ⟨trivial, List.forall_mem_cons.mpr ⟨w_108 _, List.forall_mem_cons.mpr ⟨trivial, List.forall_mem_cons.mpr ⟨trivial, List.forall_mem_cons.mpr ⟨trivial, List.forall_mem_cons.mpr ⟨trivial, List.forall_mem_cons.mpr ⟨trivial, List.forall_mem_cons.mpr ⟨w_129 _, List.forall_mem_cons.mpr ⟨trivial, List.forall_mem_cons.mpr ⟨trivial, List.forall_mem_cons.mpr ⟨trivial, List.forall_mem_cons.mpr ⟨trivial, List.forall_mem_cons.mpr ⟨w_100 _, List.forall_mem_cons.mpr ⟨trivial, List.forall_mem_cons.mpr ⟨trivial, List.forall_mem_cons.mpr ⟨w_130 _, List.forall_mem_cons.mpr ⟨trivial, List.forall_mem_cons.mpr ⟨trivial, fun _ h => absurd h List.not_mem_nil⟩⟩⟩⟩⟩⟩⟩⟩⟩⟩⟩⟩⟩⟩⟩⟩⟩⟩⟩⟩⟩⟩⟩⟩⟩⟩
theorem ok_X4_remove : ev_ok tbs t_X4_remove := ⟨rfl, by decide +kernel, fun q hq => ⟨List.all_eq_true.mp kb_X4_remove q hq, kw_X4_remove q hq⟩⟩
set_option maxRecDepth 100000 in
theorem kb_X4_enter : t_X4_enter.2.all (fun q => ev_okB t_X4_enter.1.2.2.1 q.1 q.2) = true := by decide +kernel
set_option maxRecDepth 100000 in
set_option maxHeartbeats 4000000 in
theorem kw_X4_enter : ∀ q ∈ t_X4_enter.2, ev_okW tbs t_X4_enter.1.1 t_X4_enter.1.2.1.name q.2.2.2.1 q.2.2.2.2.1 q.2.2.2.2.2.1 q.2.2.2.2.2.2 q.2.1 := List.forall_mem_cons.mpr ⟨trivial, List.forall_mem_cons.mpr ⟨trivial, List.forall_mem_cons.mpr ⟨trivial, List.forall_mem_cons.mpr ⟨trivial, List.forall_mem_cons.mpr ⟨w_131 _, List.forall_mem_cons.mpr ⟨trivial, List.forall_mem_cons.mpr ⟨trivial, List.forall_mem_cons.mpr ⟨trivial, List.forall_mem_cons.mpr ⟨trivial, List.forall_mem_cons.mpr ⟨trivial, List.forall_mem_cons.mpr ⟨trivial, List.forall_mem_cons.mpr ⟨trivial, List.forall_mem_cons.mpr ⟨w_100 _, List.forall_mem_cons.mpr ⟨trivial, List.forall_mem_cons.mpr ⟨trivial, List.forall_mem_cons.mpr ⟨w_116 _, List.forall_mem_cons.mpr ⟨trivial, List.forall_mem_cons.mpr ⟨trivial, List.forall_mem_cons.mpr ⟨trivial, List.forall_mem_cons.mpr ⟨trivial, List.forall_mem_cons.mpr ⟨trivial, List.forall_mem_cons.mpr ⟨trivial, List.forall_mem_cons.mpr ⟨trivial, List.forall_mem_cons.mpr ⟨trivial, List.forall_mem_cons.mpr ⟨trivial, List.forall_mem_cons.mpr ⟨trivial, List.forall_mem_cons.mpr ⟨trivial, List.forall_mem_cons.mpr ⟨trivial, List.forall_mem_cons.mpr ⟨trivial, List.forall_mem_cons.mpr ⟨trivial, List.forall_mem_cons.mpr ⟨trivial, List.forall_mem_cons.mpr ⟨trivial, List.forall_mem_cons.mpr ⟨trivial, List.forall_mem_cons.mpr ⟨trivial, List.forall_mem_cons.mpr ⟨trivial, List.forall_mem_cons.mpr ⟨trivial, List.forall_mem_cons.mpr ⟨trivial, List.forall_mem_cons.mpr ⟨trivial, List.forall_mem_cons.mpr ⟨trivial, List.forall_mem_cons.mpr ⟨trivial, List.forall_mem_cons.mpr ⟨trivial, List.forall_mem_cons.mpr ⟨trivial, List.forall_mem_cons.mpr ⟨trivial, List.forall_mem_cons.mpr ⟨trivial, List.forall_mem_cons.mpr ⟨trivial, List.forall_mem_cons.mpr ⟨trivial, List.forall_mem_cons.mpr ⟨trivial, List.forall_mem_cons.mpr ⟨w_132 _, List.forall_mem_cons.mpr ⟨trivial, fun _ h => absurd h List.not_mem_nil⟩⟩⟩⟩⟩⟩⟩⟩⟩⟩⟩⟩⟩⟩⟩⟩⟩⟩⟩⟩⟩⟩⟩⟩⟩⟩⟩⟩⟩⟩⟩⟩⟩⟩⟩⟩⟩⟩⟩⟩⟩⟩⟩⟩⟩⟩⟩⟩⟩
theorem ok_X4_enter : ev_ok tbs t_X4_enter := ⟨rfl, by decide +kernel, fun q hq => ⟨List.all_eq_true.mp kb_X4_enter q hq, kw_X4_enter q hq⟩⟩
set_option maxRecDepth 100000 in
theorem kb_X4_resume : t_X4_resume.2.all (fun q => ev_okB t_X4_resume.1.2.2.1 q.1 q.2) = true := by decide +kernel
set_option maxRecDepth 100000 in
set_option maxHeartbeats 4000000 in
theorem kw_X4_resume : ∀ q ∈ t_X4_resume.2, ev_okW tbs t_X4_resume.1.1 t_X4_resume.1.2.1.name q.2.2.2.1 q.2.2.2.2.1 q.2.2.2.2.2.1 q.2.2.2.2.2.2 q.2.1 := List.forall_mem_cons.mpr ⟨trivial, List.forall_mem_cons.mpr ⟨trivial, List.forall_mem_cons.mpr ⟨trivial, List.forall_mem_cons.mpr ⟨trivial, List.forall_mem_cons.mpr ⟨w_131 _, List.forall_mem_cons.mpr ⟨trivial, List.forall_mem_cons.mpr ⟨trivial, List.forall_mem_cons.mpr ⟨trivial, List.forall_mem_cons.mpr ⟨trivial, List.forall_mem_cons.mpr ⟨trivial, List.forall_mem_cons.mpr ⟨trivial, List.forall_mem_cons.mpr ⟨trivial, List.forall_mem_cons.mpr ⟨trivial, List.forall_mem_cons.mpr ⟨trivial, List.forall_mem_cons.mpr ⟨w_132 _, List.forall_mem_cons.mpr ⟨trivial, fun _ h => absurd h List.not_mem_nil⟩⟩⟩⟩⟩⟩⟩⟩⟩⟩⟩⟩⟩⟩⟩⟩
theorem ok_X4_resume : ev_ok tbs t_X4_resume := ⟨rfl, by decide +kernel, fun q hq => ⟨List.all_eq_true.mp kb_X4_resume q hq, kw_X4_resume q hq⟩⟩
set_option maxRecDepth 100000 in
theorem kb_X4_told : t_X4_told.2.all (fun q => ev_okB t_X4_told.1.2.2.1 q.1 q.2) = true := by decide +kernel
set_option maxRecDepth 100000 in
set_option maxHeartbeats 4000000 in
theorem kw_X4_told : ∀ q ∈ t_X4_told.2, ev_okW tbs t_X4_told.1.1 t_X4_told.1.2.1.name q.2.2.2.1 q.2.2.2.2.1 q.2.2.2.2.2.1 q.2.2.2.2.2.2 q.2.1 := List.forall_mem_cons.mpr ⟨trivial, List.forall_mem_cons.mpr ⟨trivial, List.forall_mem_cons.mpr ⟨trivial, List.forall_mem_cons.mpr ⟨w_133 _, List.forall_mem_cons.mpr ⟨w_134 _, List.forall_mem_cons.mpr ⟨trivial, List.forall_mem_cons.mpr ⟨trivial, List.forall_mem_cons.mpr ⟨w_133 _, List.forall_mem_cons.mpr ⟨w_135 _, List.forall_mem_cons.mpr ⟨trivial, List.forall_mem_cons.mpr ⟨trivial, List.forall_mem_cons.mpr ⟨w_133 _, List.forall_mem_cons.mpr ⟨w_136 _, List.forall_mem_cons.mpr ⟨trivial, List.forall_mem_cons.mpr ⟨trivial, List.forall_mem_cons.mpr ⟨w_133 _, List.forall_mem_cons.mpr ⟨w_137 _, List.forall_mem_cons.mpr ⟨trivial, List.forall_mem_cons.mpr ⟨trivial, List.forall_mem_cons.mpr ⟨trivial, fun _ h => absurd h List.not_mem_nil⟩⟩⟩⟩⟩⟩⟩⟩⟩⟩⟩⟩⟩⟩⟩⟩⟩⟩⟩⟩
theorem ok_X4_told : ev_ok tbs t_X4_told := ⟨rfl, by decide +kernel, fun q hq => ⟨List.all_eq_true.mp kb_X4_told q hq, kw_X4_told q hq⟩⟩
set_option maxRecDepth 100000 in
theorem kb_X4_evict : t_X4_evict.2.all (fun q => ev_okB t_X4_evict.1.2.2.1 q.1 q.2) = true := by decide +kernel
set_option maxRecDepth 100000 in
set_option maxHeartbeats 4000000 in
theorem kw_X4_evict : ∀ q ∈ t_X4_evict.2, ev_okW tbs t_X4_evict.1.1 t_X4_evict.1.2.1.name q.2.2.2.1 q.2.2.2.2.1 q.2.2.2.2.2.1 q.2.2.2.2.2.2 q.2.1 := List.forall_mem_cons.mpr ⟨trivial, List.forall_mem_cons.mpr ⟨trivial, List.forall_mem_cons.mpr ⟨trivial, List.forall_mem_cons.mpr ⟨trivial, List.forall_mem_cons.mpr ⟨w_138 _, List.forall_mem_cons.mpr ⟨trivial, List.forall_mem_cons.mpr ⟨trivial, List.forall_mem_cons.mpr ⟨trivial, List.forall_mem_cons.mpr ⟨trivial, List.forall_mem_cons.mpr ⟨trivial, List.forall_mem_cons.mpr ⟨trivial, List.forall_mem_cons.mpr ⟨trivial, List.forall_mem_cons.mpr ⟨w_139 _, List.forall_mem_cons.mpr ⟨trivial, List.forall_mem_cons.mpr ⟨trivial, List.forall_mem_cons.mpr ⟨w_140 _, List.forall_mem_cons.mpr ⟨trivial, List.forall_mem_cons.mpr ⟨trivial, List.forall_mem_cons.mpr ⟨w_100 _, List.forall_mem_cons.mpr ⟨trivial, List.forall_mem_cons.mpr ⟨trivial, List.forall_mem_cons.mpr ⟨trivial, List.forall_mem_cons.mpr ⟨w_139 _, List.forall_mem_cons.mpr ⟨w_141 _, List.forall_mem_cons.mpr ⟨trivial, List.forall_mem_cons.mpr ⟨w_100 _, List.forall_mem_cons.mpr ⟨trivial, List.forall_mem_cons.mpr ⟨trivial, List.forall_mem_cons.mpr ⟨trivial, List.forall_mem_cons.mpr ⟨trivial, List.forall_mem_cons.mpr ⟨w_139 _, List.forall_mem_cons.mpr ⟨w_142 _, List.forall_mem_cons.mpr ⟨trivial, List.forall_mem_cons.mpr ⟨w_100 _, List.forall_mem_cons.mpr ⟨trivial, List.forall_mem_cons.mpr ⟨trivial, List.forall_mem_cons.mpr ⟨w_130 _, List.forall_mem_cons.mpr ⟨trivial, List.forall_mem_cons.mpr ⟨trivial, fun _ h => absurd h List.not_mem_nil⟩⟩⟩⟩⟩⟩⟩⟩⟩⟩⟩⟩⟩⟩⟩⟩⟩⟩⟩⟩⟩⟩⟩⟩⟩⟩⟩⟩⟩⟩⟩⟩⟩⟩⟩⟩⟩⟩⟩
theorem ok_X4_evict : ev_ok tbs t_X4_evict := ⟨rfl, by decide +kernel, fun q hq => ⟨List.all_eq_true.mp kb_X4_evict q hq, kw_X4_evict q hq⟩⟩
set_option maxRecDepth 100000 in
theorem kb_X4_reload : t_X4_reload.2.all (fun q => ev_okB t_X4_reload.1.2.2.1 q.1 q.2) = true := by decide +kernel
set_option maxRecDepth 100000 in
set_option maxHeartbeats 4000000 in
theorem kw_X4_reload : ∀ q ∈ t_X4_reload.2, ev_okW tbs t_X4_reload.1.1 t_X4_reload.1.2.1.name q.2.2.2.1 q.2.2.2.2.1 q.2.2.2.2.2.1 q.2.2.2.2.2.2 q.2.1 := List.forall_mem_cons.mpr ⟨trivial, List.forall_mem_cons.mpr ⟨trivial, List.forall_mem_cons.mpr ⟨trivial, List.forall_mem_cons.mpr ⟨trivial, List.forall_mem_cons.mpr ⟨trivial, List.forall_mem_cons.mpr ⟨w_143 _, List.forall_mem_cons.mpr ⟨trivial, List.forall_mem_cons.mpr ⟨trivial, List.forall_mem_cons.mpr ⟨trivial, List.forall_mem_cons.mpr ⟨trivial, List.forall_mem_cons.mpr ⟨trivial, List.forall_mem_cons.mpr ⟨trivial, List.forall_mem_cons.mpr ⟨w_144 _, List.forall_mem_cons.mpr ⟨trivial, List.forall_mem_cons.mpr ⟨trivial, List.forall_mem_cons.mpr ⟨w_145 _, List.forall_mem_cons.mpr ⟨trivial, List.forall_mem_cons.mpr ⟨trivial, List.forall_mem_cons.mpr ⟨trivial, List.forall_mem_cons.mpr ⟨trivial, List.forall_mem_cons.mpr ⟨trivial, List.forall_mem_cons.mpr ⟨w_146 _, List.forall_mem_cons.mpr ⟨trivial, List.forall_mem_cons.mpr ⟨trivial, List.forall_mem_cons.mpr ⟨w_147 _, List.forall_mem_cons.mpr ⟨trivial, List.forall_mem_cons.mpr ⟨trivial, List.forall_mem_cons.mpr ⟨trivial, List.forall_mem_cons.mpr ⟨trivial, List.forall_mem_cons.mpr ⟨trivial, List.forall_mem_cons.mpr ⟨trivial, List.forall_mem_cons.mpr ⟨w_148 _, List.forall_mem_cons.mpr ⟨trivial, List.forall_mem_cons.mpr ⟨trivial, List.forall_mem_cons.mpr ⟨w_149 _, List.forall_mem_cons.mpr ⟨trivial, List.forall_mem_cons.mpr ⟨trivial, List.forall_mem_cons.mpr ⟨w_100 _, List.forall_mem_cons.mpr ⟨trivial, List.forall_mem_cons.mpr ⟨trivial, List.forall_mem_cons.mpr ⟨trivial, List.forall_mem_cons.mpr ⟨w_150 _, List.forall_mem_cons.mpr ⟨trivial, List.forall_mem_cons.mpr ⟨w_100 _, List.forall_mem_cons.mpr ⟨trivial, List.forall_mem_cons.mpr ⟨trivial, List.forall_mem_cons.mpr ⟨trivial, List.forall_mem_cons.mpr ⟨trivial, List.forall_mem_cons.mpr ⟨w_142 _, List.forall_mem_cons.mpr ⟨trivial, List.forall_mem_cons.mpr ⟨trivial, fun _ h => absurd h List.not_mem_nil⟩⟩⟩⟩⟩⟩⟩⟩⟩⟩⟩⟩⟩⟩⟩⟩⟩⟩⟩⟩⟩⟩⟩⟩⟩⟩⟩⟩⟩⟩⟩⟩⟩⟩⟩⟩⟩⟩⟩⟩⟩⟩⟩⟩⟩⟩⟩⟩⟩⟩⟩
theorem ok_X4_reload : ev_ok tbs t_X4_reload := ⟨rfl, by decide +kernel, fun q hq => ⟨List.all_eq_true.mp kb_X4_reload q hq, kw_X4_reload q hq⟩⟩
set_option maxRecDepth 100000 in
theorem kb_X4_page : t_X4_page.2.all (fun q => ev_okB t_X4_page.1.2.2.1 q.1 q.2) = true := by decide +kernel
set_option maxRecDepth 100000 in
set_option maxHeartbeats 4000000 in
theorem kw_X4_page : ∀ q ∈ t_X4_page.2, ev_okW tbs t_X4_page.1.1 t_X4_page.1.2.1.name q.2.2.2.1 q.2.2.2.2.1 q.2.2.2.2.2.1 q.2.2.2.2.2.2 q.2.1 := List.forall_mem_cons.mpr ⟨trivial, List.forall_mem_cons.mpr ⟨trivial, List.forall_mem_cons.mpr ⟨w_100 _, List.forall_mem_cons.mpr ⟨trivial, List.forall_mem_cons.mpr ⟨w_106 _, List.forall_mem_cons.mpr ⟨trivial, List.forall_mem_cons.mpr ⟨trivial, List.forall_mem_cons.mpr ⟨trivial, List.forall_mem_cons.mpr ⟨trivial, List.forall_mem_cons.mpr ⟨w_100 _, List.forall_mem_cons.mpr ⟨trivial, List.forall_mem_cons.mpr ⟨trivial, List.forall_mem_cons.mpr ⟨trivial, List.forall_mem_cons.mpr ⟨trivial, List.forall_mem_cons.mpr ⟨trivial, List.forall_mem_cons.mpr ⟨trivial, List.forall_mem_cons.mpr ⟨w_151 _, List.forall_mem_cons.mpr ⟨trivial, List.forall_mem_cons.mpr ⟨trivial, List.forall_mem_cons.mpr ⟨w_152 _, List.forall_mem_cons.mpr ⟨trivial, List.forall_mem_cons.mpr ⟨trivial, List.forall_mem_cons.mpr ⟨w_151 _, List.forall_mem_cons.mpr ⟨trivial, List.forall_mem_cons.mpr ⟨trivial, List.forall_mem_cons.mpr ⟨trivial, List.forall_mem_cons.mpr ⟨w_153 _, List.forall_mem_cons.mpr ⟨trivial, List.forall_mem_cons.mpr ⟨trivial, List.forall_mem_cons.mpr ⟨trivial, List.forall_mem_cons.mpr ⟨trivial, List.forall_mem_cons.mpr ⟨w_154 _, List.forall_mem_cons.mpr ⟨trivial, List.forall_mem_cons.mpr ⟨trivial, List.forall_mem_cons.mpr ⟨w_155 _, List.forall_mem_cons.mpr ⟨trivial, List.forall_mem_cons.mpr ⟨trivial, List.forall_mem_cons.mpr ⟨trivial, List.forall_mem_cons.mpr ⟨w_122 _, List.forall_mem_cons.mpr ⟨trivial, List.forall_mem_cons.mpr ⟨trivial, List.forall_mem_cons.mpr ⟨trivial, List.forall_mem_cons.mpr ⟨w_156 _, List.forall_mem_cons.mpr ⟨trivial, List.forall_mem_cons.mpr ⟨trivial, List.forall_mem_cons.mpr ⟨w_157 _, List.forall_mem_cons.mpr ⟨trivial, List.forall_mem_cons.mpr ⟨trivial, List.forall_mem_cons.mpr ⟨trivial, List.forall_mem_cons.mpr ⟨trivial, List.forall_mem_cons.mpr ⟨trivial, List.forall_mem_cons.mpr ⟨trivial, List.forall_mem_cons.mpr ⟨trivial, fun _ h => absurd h List.not_mem_nil⟩⟩⟩⟩⟩⟩⟩⟩⟩⟩⟩⟩⟩⟩⟩⟩⟩⟩⟩⟩⟩⟩⟩⟩⟩⟩⟩⟩⟩⟩⟩⟩⟩⟩⟩⟩⟩⟩⟩⟩⟩⟩⟩⟩⟩⟩⟩⟩⟩⟩⟩⟩⟩
theorem ok_X4_page : ev_ok tbs t_X4_page := ⟨rfl, by decide +kernel, fun q hq => ⟨List.all_eq_true.mp kb_X4_page q hq, kw_X4_page q hq⟩⟩
set_option maxRecDepth 100000 in
theorem kb_X4_measure : t_X4_measure.2.all (fun q => ev_okB t_X4_measure.1.2.2.1 q.1 q.2) = true := by decide +kernel
set_option maxRecDepth 100000 in
set_option maxHeartbeats 4000000 in
theorem kw_X4_measure : ∀ q ∈ t_X4_measure.2, ev_okW tbs t_X4_measure.1.1 t_X4_measure.1.2.1.name q.2.2.2.1 q.2.2.2.2.1 q.2.2.2.2.2.1 q.2.2.2.2.2.2 q.2.1 := List.forall_mem_cons.mpr ⟨trivial, List.forall_mem_cons.mpr ⟨trivial, List.forall_mem_cons.mpr ⟨trivial, List.forall_mem_cons.mpr ⟨w_108 _, List.forall_mem_cons.mpr ⟨trivial, List.forall_mem_cons.mpr ⟨trivial, List.forall_mem_cons.mpr ⟨trivial, List.forall_mem_cons.mpr ⟨w_106 _, List.forall_mem_cons.mpr ⟨trivial, List.forall_mem_cons.mpr ⟨trivial, List.forall_mem_cons.mpr ⟨trivial, List.forall_mem_cons.mpr ⟨trivial, List.forall_mem_cons.mpr ⟨w_100 _, List.forall_mem_cons.mpr ⟨trivial, List.forall_mem_cons.mpr ⟨trivial, List.forall_mem_cons.mpr ⟨w_125 _, List.forall_mem_cons.mpr ⟨trivial, List.forall_mem_cons.mpr ⟨trivial, List.forall_mem_cons.mpr ⟨trivial, fun _ h => absurd h List.not_mem_nil⟩⟩⟩⟩⟩⟩⟩⟩⟩⟩⟩⟩⟩⟩⟩⟩⟩⟩⟩
theorem ok_X4_measure : ev_ok tbs t_X4_measure := ⟨rfl, by decide +kernel, fun q hq => ⟨List.all_eq_true.mp kb_X4_measure q hq, kw_X4_measure q hq⟩⟩
set_option maxRecDepth 100000 in
theorem kb_X4_slot : t_X4_slot.2.all (fun q => ev_okB t_X4_slot.1.2.2.1 q.1 q.2) = true := by decide +kernel
set_option maxRecDepth 100000 in
set_option maxHeartbeats 4000000 in
theorem kw_X4_slot : ∀ q ∈ t_X4_slot.2, ev_okW tbs t_X4_slot.1.1 t_X4_slot.1.2.1.name q.2.2.2.1 q.2.2.2.2.1 q.2.2.2.2.2.1 q.2.2.2.2.2.2 q.2.1 := List.forall_mem_cons.mpr ⟨trivial, List.forall_mem_cons.mpr ⟨trivial, List.forall_mem_cons.mpr ⟨trivial, List.forall_mem_cons.mpr ⟨w_108 _, List.forall_mem_cons.mpr ⟨trivial, List.forall_mem_cons.mpr ⟨trivial, List.forall_mem_cons.mpr ⟨trivial, List.forall_mem_cons.mpr ⟨w_106 _, List.forall_mem_cons.mpr ⟨trivial, List.forall_mem_cons.mpr ⟨trivial, List.forall_mem_cons.mpr ⟨trivial, List.forall_mem_cons.mpr ⟨trivial, List.forall_mem_cons.mpr ⟨w_100 _, List.forall_mem_cons.mpr ⟨trivial, List.forall_mem_cons.mpr ⟨trivial, List.forall_mem_cons.mpr ⟨trivial, List.forall_mem_cons.mpr ⟨w_158 _, List.forall_mem_cons.mpr ⟨trivial, fun _ h => absurd h List.not_mem_nil⟩⟩⟩⟩⟩⟩⟩⟩⟩⟩⟩⟩⟩⟩⟩⟩⟩⟩
theorem ok_X4_slot : ev_ok tbs t_X4_slot := ⟨rfl, by decide +kernel, fun q hq => ⟨List.all_eq_true.mp kb_X4_slot q hq, kw_X4_slot q hq⟩⟩
set_option maxRecDepth 100000 in
theorem kb_X4_count : t_X4_count.2.all (fun q => ev_okB t_X4_count.1.2.2.1 q.1 q.2) = true := by decide +kernel
set_option maxRecDepth 100000 in
set_option maxHeartbeats 4000000 in
theorem kw_X4_count : ∀ q ∈ t_X4_count.2, ev_okW tbs t_X4_count.1.1 t_X4_count.1.2.1.name q.2.2.2.1 q.2.2.2.2.1 q.2.2.2.2.2.1 q.2.2.2.2.2.2 q.2.1 := List.forall_mem_cons.mpr ⟨trivial, List.forall_mem_cons.mpr ⟨trivial, List.forall_mem_cons.mpr ⟨trivial, List.forall_mem_cons.mpr ⟨trivial, List.forall_mem_cons.mpr ⟨trivial, List.forall_mem_cons.mpr ⟨trivial, List.forall_mem_cons.mpr ⟨trivial, List.forall_mem_cons.mpr ⟨trivial, List.forall_mem_cons.mpr ⟨trivial, List.forall_mem_cons.mpr ⟨trivial, List.forall_mem_cons.mpr ⟨w_159 _, List.forall_mem_cons.mpr ⟨trivial, List.forall_mem_cons.mpr ⟨trivial, List.forall_mem_cons.mpr ⟨trivial, List.forall_mem_cons.mpr ⟨trivial, List.forall_mem_cons.mpr ⟨w_100 _, List.forall_mem_cons.mpr ⟨trivial, List.forall_mem_cons.mpr ⟨trivial, List.forall_mem_cons.mpr ⟨trivial, List.forall_mem_cons.mpr ⟨w_139 _, List.forall_mem_cons.mpr ⟨trivial, List.forall_mem_cons.mpr ⟨trivial, List.forall_mem_cons.mpr ⟨trivial, List.forall_mem_cons.mpr ⟨w_148 _, List.forall_mem_cons.mpr ⟨trivial, List.forall_mem_cons.mpr ⟨trivial, List.forall_mem_cons.mpr ⟨w_144 _, List.forall_mem_cons.mpr ⟨trivial, List.forall_mem_cons.mpr ⟨trivial, List.forall_mem_cons.mpr ⟨w_146 _, List.forall_mem_cons.mpr ⟨trivial, List.forall_mem_cons.mpr ⟨trivial, List.forall_mem_cons.mpr ⟨w_109 _, List.forall_mem_cons.mpr ⟨trivial, List.forall_mem_cons.mpr ⟨trivial, List.forall_mem_cons.mpr ⟨trivial, fun _ h => absurd h List.not_mem_nil⟩⟩⟩⟩⟩⟩⟩⟩⟩⟩⟩⟩⟩⟩⟩⟩⟩⟩⟩⟩⟩⟩⟩⟩⟩⟩⟩⟩⟩⟩⟩⟩⟩⟩⟩⟩
theorem ok_X4_count : ev_ok tbs t_X4_count := ⟨rfl, by decide +kernel, fun q hq => ⟨List.all_eq_true.mp kb_X4_count q hq, kw_X4_count q hq⟩⟩
set_option maxRecDepth 100000 in
theorem kb_X4_isWithin : t_X4_isWithin.2.all (fun q => ev_okB t_X4_isWithin.1.2.2.1 q.1 q.2) = true := by decide +kernel
set_option maxRecDepth 100000 in
set_option maxHeartbeats 4000000 in
theorem kw_X4_isWithin : ∀ q ∈ t_X4_isWithin.2, ev_okW tbs t_X4_isWithin.1.1 t_X4_isWithin.1.2.1.name q.2.2.2.1 q.2.2.2.2.1 q.2.2.2.2.2.1 q.2.2.2.2.2.2 q.2.1 := List.forall_mem_cons.mpr ⟨trivial, List.forall_mem_cons.mpr ⟨trivial, List.forall_mem_cons.mpr ⟨trivial, List.forall_mem_cons.mpr ⟨trivial, List.forall_mem_cons.mpr ⟨trivial, List.forall_mem_cons.mpr ⟨trivial, List.forall_mem_cons.mpr ⟨trivial, List.forall_mem_cons.mpr ⟨trivial, List.forall_mem_cons.mpr ⟨trivial, fun _ h => absurd h List.not_mem_nil⟩⟩⟩⟩⟩⟩⟩⟩⟩
theorem ok_X4_isWithin : ev_ok tbs t_X4_isWithin := ⟨rfl, by decide +kernel, fun q hq => ⟨List.all_eq_true.mp kb_X4_isWithin q hq, kw_X4_isWithin q hq⟩⟩
set_option maxRecDepth 100000 in
theorem kb_X4_isOfType : t_X4_isOfType.2.all (fun q => ev_okB t_X4_isOfType.1.2.2.1 q.1 q.2) = true := by decide +kernel
set_option maxRecDepth 100000 in
set_option maxHeartbeats 4000000 in
theorem kw_X4_isOfType : ∀ q ∈ t_X4_isOfType.2, ev_okW tbs t_X4_isOfType.1.1 t_X4_isOfType.1.2.1.name q.2.2.2.1 q.2.2.2.2.1 q.2.2.2.2.2.1 q.2.2.2.2.2.2 q.2.1 := List.forall_mem_cons.mpr ⟨trivial, List.forall_mem_cons.mpr ⟨trivial, List.forall_mem_cons.mpr ⟨w_100 _, List.forall_mem_cons.mpr ⟨trivial, List.forall_mem_cons.mpr ⟨w_106 _, List.forall_mem_cons.mpr ⟨trivial, List.forall_mem_cons.mpr ⟨trivial, List.forall_mem_cons.mpr ⟨w_100 _, List.forall_mem_cons.mpr ⟨trivial, List.forall_mem_cons.mpr ⟨trivial, List.forall_mem_cons.mpr ⟨w_151 _, List.forall_mem_cons.mpr ⟨trivial, List.forall_mem_cons.mpr ⟨trivial, List.forall_mem_cons.mpr ⟨trivial, List.forall_mem_cons.mpr ⟨trivial, List.forall_mem_cons.mpr ⟨trivial, List.forall_mem_cons.mpr ⟨trivial, fun _ h => absurd h List.not_mem_nil⟩⟩⟩⟩⟩⟩⟩⟩⟩⟩⟩⟩⟩⟩⟩⟩⟩
theorem ok_X4_isOfType : ev_ok tbs t_X4_isOfType := ⟨rfl, by decide +kernel, fun q hq => ⟨List.all_eq_true.mp kb_X4_isOfType q hq, kw_X4_isOfType q hq⟩⟩
set_option maxRecDepth 100000 in
theorem kb_X4_stateOf : t_X4_stateOf.2.all (fun q => ev_okB t_X4_stateOf.1.2.2.1 q.1 q.2) = true := by decide +kernel
set_option maxRecDepth 100000 in
set_option maxHeartbeats 4000000 in
theorem kw_X4_stateOf : ∀ q ∈ t_X4_stateOf.2, ev_okW tbs t_X4_stateOf.1.1 t_X4_stateOf.1.2.1.name q.2.2.2.1 q.2.2.2.2.1 q.2.2.2.2.2.1 q.2.2.2.2.2.2 q.2.1 := List.forall_mem_cons.mpr ⟨trivial, List.forall_mem_cons.mpr ⟨trivial, List.forall_mem_cons.mpr ⟨trivial, List.forall_mem_cons.mpr ⟨w_108 _, List.forall_mem_cons.mpr ⟨trivial, List.forall_mem_cons.mpr ⟨trivial, List.forall_mem_cons.mpr ⟨w_100 _, List.forall_mem_cons.mpr ⟨trivial, List.forall_mem_cons.mpr ⟨trivial, List.forall_mem_cons.mpr ⟨w_160 _, List.forall_mem_cons.mpr ⟨trivial, List.forall_mem_cons.mpr ⟨trivial, List.forall_mem_cons.mpr ⟨trivial, fun _ h => absurd h List.not_mem_nil⟩⟩⟩⟩⟩⟩⟩⟩⟩⟩⟩⟩⟩
theorem ok_X4_stateOf : ev_ok tbs t_X4_stateOf := ⟨rfl, by decide +kernel, fun q hq => ⟨List.all_eq_true.mp kb_X4_stateOf q hq, kw_X4_stateOf q hq⟩⟩
set_option maxRecDepth 100000 in
theorem kb_X4_pagesOfType : t_X4_pagesOfType.2.all (fun q => ev_okB t_X4_pagesOfType.1.2.2.1 q.1 q.2) = true := by decide +kernel
set_option maxRecDepth 100000 in
set_option maxHeartbeats 4000000 in
theorem kw_X4_pagesOfType : ∀ q ∈ t_X4_pagesOfType.2, ev_okW tbs t_X4_pagesOfType.1.1 t_X4_pagesOfType.1.2.1.name q.2.2.2.1 q.2.2.2.2.1 q.2.2.2.2.2.1 q.2.2.2.2.2.2 q.2.1 := List.forall_mem_cons.mpr ⟨trivial, List.forall_mem_cons.mpr ⟨trivial, List.forall_mem_cons.mpr ⟨trivial, List.forall_mem_cons.mpr ⟨trivial, List.forall_mem_cons.mpr ⟨trivial, List.forall_mem_cons.mpr ⟨trivial, List.forall_mem_cons.mpr ⟨w_100 _, List.forall_mem_cons.mpr ⟨trivial, List.forall_mem_cons.mpr ⟨trivial, List.forall_mem_cons.mpr ⟨trivial, List.forall_mem_cons.mpr ⟨w_100 _, List.forall_mem_cons.mpr ⟨trivial, List.forall_mem_cons.mpr ⟨trivial, List.forall_mem_cons.mpr ⟨w_151 _, List.forall_mem_cons.mpr ⟨trivial, List.forall_mem_cons.mpr ⟨trivial, List.forall_mem_cons.mpr ⟨trivial, List.forall_mem_cons.mpr ⟨trivial, List.forall_mem_cons.mpr ⟨trivial, List.forall_mem_cons.mpr ⟨trivial, List.forall_mem_cons.mpr ⟨trivial, fun _ h => absurd h List.not_mem_nil⟩⟩⟩⟩⟩⟩⟩⟩⟩⟩⟩⟩⟩⟩⟩⟩⟩⟩⟩⟩⟩
theorem ok_X4_pagesOfType : ev_ok tbs t_X4_pagesOfType := ⟨rfl, by decide +kernel, fun q hq => ⟨List.all_eq_true.mp kb_X4_pagesOfType q hq, kw_X4_pagesOfType q hq⟩⟩
set_option maxRecDepth 100000 in
theorem kb_X4_ownedBy : t_X4_ownedBy.2.all (fun q => ev_okB t_X4_ownedBy.1.2.2.1 q.1 q.2) = true := by decide +kernel
set_option maxRecDepth 100000 in
set_option maxHeartbeats 4000000 in
theorem kw_X4_ownedBy : ∀ q ∈ t_X4_ownedBy.2, ev_okW tbs t_X4_ownedBy.1.1 t_X4_ownedBy.1.2.1.name q.2.2.2.1 q.2.2.2.2.1 q.2.2.2.2.2.1 q.2.2.2.2.2.2 q.2.1 := List.forall_mem_cons.mpr ⟨trivial, List.forall_mem_cons.mpr ⟨trivial, List.forall_mem_cons.mpr ⟨trivial, List.forall_mem_cons.mpr ⟨trivial, List.forall_mem_cons.mpr ⟨trivial, List.forall_mem_cons.mpr ⟨trivial, List.forall_mem_cons.mpr ⟨w_100 _, List.forall_mem_cons.mpr ⟨trivial, List.forall_mem_cons.mpr ⟨trivial, List.forall_mem_cons.mpr ⟨trivial, List.forall_mem_cons.mpr ⟨w_100 _, List.forall_mem_cons.mpr ⟨trivial, List.forall_mem_cons.mpr ⟨trivial, List.forall_mem_cons.mpr ⟨w_152 _, List.forall_mem_cons.mpr ⟨trivial, List.forall_mem_cons.mpr ⟨trivial, List.forall_mem_cons.mpr ⟨trivial, List.forall_mem_cons.mpr ⟨trivial, List.forall_mem_cons.mpr ⟨trivial, List.forall_mem_cons.mpr ⟨trivial, List.forall_mem_cons.mpr ⟨trivial, fun _ h => absurd h List.not_mem_nil⟩⟩⟩⟩⟩⟩⟩⟩⟩⟩⟩⟩⟩⟩⟩⟩⟩⟩⟩⟩⟩
theorem ok_X4_ownedBy : ev_ok tbs t_X4_ownedBy := ⟨rfl, by decide +kernel, fun q hq => ⟨List.all_eq_true.mp kb_X4_ownedBy q hq, kw_X4_ownedBy q hq⟩⟩
set_option maxRecDepth 100000 in
theorem kb_X4_hasAddress : t_X4_hasAddress.2.all (fun q => ev_okB t_X4_hasAddress.1.2.2.1 q.1 q.2) = true := by decide +kernel
set_option maxRecDepth 100000 in
set_option maxHeartbeats 4000000 in
theorem kw_X4_hasAddress : ∀ q ∈ t_X4_hasAddress.2, ev_okW tbs t_X4_hasAddress.1.1 t_X4_hasAddress.1.2.1.name q.2.2.2.1 q.2.2.2.2.1 q.2.2.2.2.2.1 q.2.2.2.2.2.2 q.2.1 := List.forall_mem_cons.mpr ⟨trivial, List.forall_mem_cons.mpr ⟨trivial, List.forall_mem_cons.mpr ⟨trivial, List.forall_mem_cons.mpr ⟨trivial, List.forall_mem_cons.mpr ⟨w_100 _, List.forall_mem_cons.mpr ⟨trivial, List.forall_mem_cons.mpr ⟨trivial, List.forall_mem_cons.mpr ⟨trivial, List.forall_mem_cons.mpr ⟨w_100 _, List.forall_mem_cons.mpr ⟨trivial, List.forall_mem_cons.mpr ⟨trivial, List.forall_mem_cons.mpr ⟨trivial, List.forall_mem_cons.mpr ⟨w_161 _, List.forall_mem_cons.mpr ⟨trivial, List.forall_mem_cons.mpr ⟨trivial, List.forall_mem_cons.mpr ⟨w_100 _, List.forall_mem_cons.mpr ⟨trivial, List.forall_mem_cons.mpr ⟨trivial, List.forall_mem_cons.mpr ⟨w_153 _, List.forall_mem_cons.mpr ⟨trivial, List.forall_mem_cons.mpr ⟨trivial, List.forall_mem_cons.mpr ⟨trivial, List.forall_mem_cons.mpr ⟨trivial, List.forall_mem_cons.mpr ⟨trivial, List.forall_mem_cons.mpr ⟨trivial, List.forall_mem_cons.mpr ⟨trivial, List.forall_mem_cons.mpr ⟨trivial, fun _ h => absurd h List.not_mem_nil⟩⟩⟩⟩⟩⟩⟩⟩⟩⟩⟩⟩⟩⟩⟩⟩⟩⟩⟩⟩⟩⟩⟩⟩⟩⟩⟩
theorem ok_X4_hasAddress : ev_ok tbs t_X4_hasAddress := ⟨rfl, by decide +kernel, fun q hq => ⟨List.all_eq_true.mp kb_X4_hasAddress q hq, kw_X4_hasAddress q hq⟩⟩
set_option maxRecDepth 100000 in
theorem kb_X4_whyNotAdded : t_X4_whyNotAdded.2.all (fun q => ev_okB t_X4_whyNotAdded.1.2.2.1 q.1 q.2) = true := by decide +kernel
set_option maxRecDepth 100000 in
set_option maxHeartbeats 4000000 in
theorem kw_X4_whyNotAdded : ∀ q ∈ t_X4_whyNotAdded.2, ev_okW tbs t_X4_whyNotAdded.1.1 t_X4_whyNotAdded.1.2.1.name q.2.2.2.1 q.2.2.2.2.1 q.2.2.2.2.2.1 q.2.2.2.2.2.2 q.2.1 := List.forall_mem_cons.mpr ⟨trivial, List.forall_mem_cons.mpr ⟨trivial, List.forall_mem_cons.mpr ⟨trivial, List.forall_mem_cons.mpr ⟨w_108 _, List.forall_mem_cons.mpr ⟨trivial, List.forall_mem_cons.mpr ⟨trivial, List.forall_mem_cons.mpr ⟨trivial, List.forall_mem_cons.mpr ⟨trivial, List.forall_mem_cons.mpr ⟨w_108 _, List.forall_mem_cons.mpr ⟨trivial, List.forall_mem_cons.mpr ⟨trivial, List.forall_mem_cons.mpr ⟨trivial, List.forall_mem_cons.mpr ⟨trivial, List.forall_mem_cons.mpr ⟨trivial, List.forall_mem_cons.mpr ⟨w_122 _, List.forall_mem_cons.mpr ⟨trivial, List.forall_mem_cons.mpr ⟨trivial, List.forall_mem_cons.mpr ⟨trivial, List.forall_mem_cons.mpr ⟨trivial, List.forall_mem_cons.mpr ⟨trivial, fun _ h => absurd h List.not_mem_nil⟩⟩⟩⟩⟩⟩⟩⟩⟩⟩⟩⟩⟩⟩⟩⟩⟩⟩⟩⟩
theorem ok_X4_whyNotAdded : ev_ok tbs t_X4_whyNotAdded := ⟨rfl, by decide +kernel, fun q hq => ⟨List.all_eq_true.mp kb_X4_whyNotAdded q hq, kw_X4_whyNotAdded q hq⟩⟩
set_option maxRecDepth 100000 in
theorem kb_X4_extendMeasure : t_X4_extendMeasure.2.all (fun q => ev_okB t_X4_extendMeasure.1.2.2.1 q.1 q.2) = true := by decide +kernel
set_option maxRecDepth 100000 in
set_option maxHeartbeats 4000000 in
theorem kw_X4_extendMeasure : ∀ q ∈ t_X4_extendMeasure.2, ev_okW tbs t_X4_extendMeasure.1.1 t_X4_extendMeasure.1.2.1.name q.2.2.2.1 q.2.2.2.2.1 q.2.2.2.2.2.1 q.2.2.2.2.2.2 q.2.1 := List.forall_mem_cons.mpr ⟨trivial, List.forall_mem_cons.mpr ⟨w_123 _, List.forall_mem_cons.mpr ⟨w_124 _, List.forall_mem_cons.mpr ⟨trivial, List.forall_mem_cons.mpr ⟨w_123 _, List.forall_mem_cons.mpr ⟨trivial, List.forall_mem_cons.mpr ⟨w_125 _, List.forall_mem_cons.mpr ⟨trivial, List.forall_mem_cons.mpr ⟨w_126 _, List.forall_mem_cons.mpr ⟨trivial, List.forall_mem_cons.mpr ⟨w_123 _, List.forall_mem_cons.mpr ⟨trivial, List.forall_mem_cons.mpr ⟨w_151 _, List.forall_mem_cons.mpr ⟨w_127 _, List.forall_mem_cons.mpr ⟨trivial, List.forall_mem_cons.mpr ⟨w_123 _, List.forall_mem_cons.mpr ⟨trivial, List.forall_mem_cons.mpr ⟨w_127 _, List.forall_mem_cons.mpr ⟨trivial, List.forall_mem_cons.mpr ⟨w_123 _, List.forall_mem_cons.mpr ⟨trivial, List.forall_mem_cons.mpr ⟨w_154 _, List.forall_mem_cons.mpr ⟨w_127 _, List.forall_mem_cons.mpr ⟨trivial, List.forall_mem_cons.mpr ⟨w_123 _, List.forall_mem_cons.mpr ⟨trivial, List.forall_mem_cons.mpr ⟨w_127 _, List.forall_mem_cons.mpr ⟨trivial, List.forall_mem_cons.mpr ⟨w_123 _, List.forall_mem_cons.mpr ⟨trivial, List.forall_mem_cons.mpr ⟨w_116 _, List.forall_mem_cons.mpr ⟨trivial, List.forall_mem_cons.mpr ⟨w_126 _, List.forall_mem_cons.mpr ⟨trivial, List.forall_mem_cons.mpr ⟨w_123 _, List.forall_mem_cons.mpr ⟨trivial, List.forall_mem_cons.mpr ⟨w_125 _, List.forall_mem_cons.mpr ⟨trivial, List.forall_mem_cons.mpr ⟨w_128 _, List.forall_mem_cons.mpr ⟨trivial, fun _ h => absurd h List.not_mem_nil⟩⟩⟩⟩⟩⟩⟩⟩⟩⟩⟩⟩⟩⟩⟩⟩⟩⟩⟩⟩⟩⟩⟩⟩⟩⟩⟩⟩⟩⟩⟩⟩⟩⟩⟩⟩⟩⟩⟩⟩
theorem ok_X4_extendMeasure : ev_ok tbs t_X4_extendMeasure := ⟨rfl, by decide +kernel, fun q hq => ⟨List.all_eq_true.mp kb_X4_extendMeasure q hq, kw_X4_extendMeasure q hq⟩⟩
set_option maxRecDepth 100000 in
theorem kb_X4_isRemovable : t_X4_isRemovable.2.all (fun q => ev_okB t_X4_isRemovable.1.2.2.1 q.1 q.2) = true := by decide +kernel
set_option maxRecDepth 100000 in
set_option maxHeartbeats 4000000 in
theorem kw_X4_isRemovable : ∀ q ∈ t_X4_isRemovable.2, ev_okW tbs t_X4_isRemovable.1.1 t_X4_isRemovable.1.2.1.name q.2.2.2.1 q.2.2.2.2.1 q.2.2.2.2.2.1 q.2.2.2.2.2.2 q.2.1 := List.forall_mem_cons.mpr ⟨trivial, List.forall_mem_cons.mpr ⟨w_100 _, List.forall_mem_cons.mpr ⟨trivial, List.forall_mem_cons.mpr ⟨trivial, List.forall_mem_cons.mpr ⟨w_151 _, List.forall_mem_cons.mpr ⟨trivial, List.forall_mem_cons.mpr ⟨trivial, List.forall_mem_cons.mpr ⟨trivial, List.forall_mem_cons.mpr ⟨trivial, List.forall_mem_cons.mpr ⟨trivial, List.forall_mem_cons.mpr ⟨trivial, List.forall_mem_cons.mpr ⟨w_122 _, List.forall_mem_cons.mpr ⟨trivial, List.forall_mem_cons.mpr ⟨trivial, List.forall_mem_cons.mpr ⟨trivial, List.forall_mem_cons.mpr ⟨trivial, List.forall_mem_cons.mpr ⟨w_156 _, List.forall_mem_cons.mpr ⟨trivial, List.forall_mem_cons.mpr ⟨trivial, List.forall_mem_cons.mpr ⟨trivial, List.forall_mem_cons.mpr ⟨trivial, List.forall_mem_cons.mpr ⟨trivial, List.forall_mem_cons.mpr ⟨trivial, List.forall_mem_cons.mpr ⟨trivial, List.forall_mem_cons.mpr ⟨trivial, List.forall_mem_cons.mpr ⟨trivial, List.forall_mem_cons.mpr ⟨trivial, List.forall_mem_cons.mpr ⟨w_100 _, List.forall_mem_cons.mpr ⟨trivial, List.forall_mem_cons.mpr ⟨trivial, List.forall_mem_cons.mpr ⟨w_152 _, List.forall_mem_cons.mpr ⟨w_122 _, List.forall_mem_cons.mpr ⟨trivial, List.forall_mem_cons.mpr ⟨trivial, List.forall_mem_cons.mpr ⟨trivial, List.forall_mem_cons.mpr ⟨trivial, List.forall_mem_cons.mpr ⟨trivial, List.forall_mem_cons.mpr ⟨trivial, fun _ h => absurd h List.not_mem_nil⟩⟩⟩⟩⟩⟩⟩⟩⟩⟩⟩⟩⟩⟩⟩⟩⟩⟩⟩⟩⟩⟩⟩⟩⟩⟩⟩⟩⟩⟩⟩⟩⟩⟩⟩⟩⟩⟩
theorem ok_X4_isRemovable : ev_ok tbs t_X4_isRemovable := ⟨rfl, by decide +kernel, fun q hq => ⟨List.all_eq_true.mp kb_X4_isRemovable q hq, kw_X4_isRemovable q hq⟩⟩
set_option maxRecDepth 100000 in
theorem kb_X4_whyNotRun : t_X4_whyNotRun.2.all (fun q => ev_okB t_X4_whyNotRun.1.2.2.1 q.1 q.2) = true := by decide +kernel
set_option maxRecDepth 100000 in
set_option maxHeartbeats 4000000 in
theorem kw_X4_whyNotRun : ∀ q ∈ t_X4_whyNotRun.2, ev_okW tbs t_X4_whyNotRun.1.1 t_X4_whyNotRun.1.2.1.name q.2.2.2.1 q.2.2.2.2.1 q.2.2.2.2.2.1 q.2.2.2.2.2.2 q.2.1 := List.forall_mem_cons.mpr ⟨trivial, List.forall_mem_cons.mpr ⟨trivial, List.forall_mem_cons.mpr ⟨trivial, List.forall_mem_cons.mpr ⟨w_108 _, List.forall_mem_cons.mpr ⟨trivial, List.forall_mem_cons.mpr ⟨trivial, List.forall_mem_cons.mpr ⟨trivial, List.forall_mem_cons.mpr ⟨trivial, List.forall_mem_cons.mpr ⟨w_100 _, List.forall_mem_cons.mpr ⟨trivial, List.forall_mem_cons.mpr ⟨trivial, List.forall_mem_cons.mpr ⟨trivial, List.forall_mem_cons.mpr ⟨trivial, List.forall_mem_cons.mpr ⟨trivial, List.forall_mem_cons.mpr ⟨w_152 _, List.forall_mem_cons.mpr ⟨w_122 _, List.forall_mem_cons.mpr ⟨trivial, List.forall_mem_cons.mpr ⟨trivial, List.forall_mem_cons.mpr ⟨trivial, List.forall_mem_cons.mpr ⟨w_157 _, List.forall_mem_cons.mpr ⟨trivial, List.forall_mem_cons.mpr ⟨trivial, List.forall_mem_cons.mpr ⟨trivial, List.forall_mem_cons.mpr ⟨trivial, List.forall_mem_cons.mpr ⟨trivial, List.forall_mem_cons.mpr ⟨trivial, List.forall_mem_cons.mpr ⟨trivial, List.forall_mem_cons.mpr ⟨trivial, List.forall_mem_cons.mpr ⟨trivial, List.forall_mem_cons.mpr ⟨trivial, List.forall_mem_cons.mpr ⟨trivial, List.forall_mem_cons.mpr ⟨trivial, List.forall_mem_cons.mpr ⟨trivial, fun _ h => absurd h List.not_mem_nil⟩⟩⟩⟩⟩⟩⟩⟩⟩⟩⟩⟩⟩⟩⟩⟩⟩⟩⟩⟩⟩⟩⟩⟩⟩⟩⟩⟩⟩⟩⟩⟩⟩
theorem ok_X4_whyNotRun : ev_ok tbs t_X4_whyNotRun := ⟨rfl, by decide +kernel, fun q hq => ⟨List.all_eq_true.mp kb_X4_whyNotRun q hq, kw_X4_whyNotRun q hq⟩⟩
set_option maxRecDepth 100000 in
theorem kb_X4_runThread : t_X4_runThread.2.all (fun q => ev_okB t_X4_runThread.1.2.2.1 q.1 q.2) = true := by decide +kernel
set_option maxRecDepth 100000 in
set_option maxHeartbeats 4000000 in
theorem kw_X4_runThread : ∀ q ∈ t_X4_runThread.2, ev_okW tbs t_X4_runThread.1.1 t_X4_runThread.1.2.1.name q.2.2.2.1 q.2.2.2.2.1 q.2.2.2.2.2.1 q.2.2.2.2.2.2 q.2.1 := List.forall_mem_cons.mpr ⟨trivial, List.forall_mem_cons.mpr ⟨w_100 _, List.forall_mem_cons.mpr ⟨trivial, List.forall_mem_cons.mpr ⟨trivial, List.forall_mem_cons.mpr ⟨w_152 _, List.forall_mem_cons.mpr ⟨trivial, List.forall_mem_cons.mpr ⟨trivial, List.forall_mem_cons.mpr ⟨w_133 _, List.forall_mem_cons.mpr ⟨trivial, List.forall_mem_cons.mpr ⟨w_100 _, List.forall_mem_cons.mpr ⟨trivial, List.forall_mem_cons.mpr ⟨w_162 _, List.forall_mem_cons.mpr ⟨trivial, List.forall_mem_cons.mpr ⟨w_133 _, List.forall_mem_cons.mpr ⟨trivial, List.forall_mem_cons.mpr ⟨w_100 _, List.forall_mem_cons.mpr ⟨trivial, List.forall_mem_cons.mpr ⟨trivial, List.forall_mem_cons.mpr ⟨w_116 _, List.forall_mem_cons.mpr ⟨trivial, List.forall_mem_cons.mpr ⟨w_100 _, List.forall_mem_cons.mpr ⟨trivial, List.forall_mem_cons.mpr ⟨trivial, List.forall_mem_cons.mpr ⟨w_125 _, List.forall_mem_cons.mpr ⟨trivial, List.forall_mem_cons.mpr ⟨w_163 _, List.forall_mem_cons.mpr ⟨trivial, List.forall_mem_cons.mpr ⟨w_133 _, List.forall_mem_cons.mpr ⟨w_134 _, List.forall_mem_cons.mpr ⟨trivial, fun _ h => absurd h List.not_mem_nil⟩⟩⟩⟩⟩⟩⟩⟩⟩⟩⟩⟩⟩⟩⟩⟩⟩⟩⟩⟩⟩⟩⟩⟩⟩⟩⟩⟩⟩⟩
theorem ok_X4_runThread : ev_ok tbs t_X4_runThread := ⟨rfl, by decide +kernel, fun q hq => ⟨List.all_eq_true.mp kb_X4_runThread q hq, kw_X4_runThread q hq⟩⟩
set_option maxRecDepth 100000 in
theorem kb_X4_whyNotEvicted : t_X4_whyNotEvicted.2.all (fun q => ev_okB t_X4_whyNotEvicted.1.2.2.1 q.1 q.2) = true := by decide +kernel
set_option maxRecDepth 100000 in
set_option maxHeartbeats 4000000 in
theorem kw_X4_whyNotEvicted : ∀ q ∈ t_X4_whyNotEvicted.2, ev_okW tbs t_X4_whyNotEvicted.1.1 t_X4_whyNotEvicted.1.2.1.name q.2.2.2.1 q.2.2.2.2.1 q.2.2.2.2.2.1 q.2.2.2.2.2.2 q.2.1 := List.forall_mem_cons.mpr ⟨trivial, List.forall_mem_cons.mpr ⟨trivial, List.forall_mem_cons.mpr ⟨trivial, List.forall_mem_cons.mpr ⟨w_108 _, List.forall_mem_cons.mpr ⟨trivial, List.forall_mem_cons.mpr ⟨trivial, List.forall_mem_cons.mpr ⟨trivial, List.forall_mem_cons.mpr ⟨trivial, List.forall_mem_cons.mpr ⟨w_108 _, List.forall_mem_cons.mpr ⟨trivial, List.forall_mem_cons.mpr ⟨trivial, List.forall_mem_cons.mpr ⟨trivial, List.forall_mem_cons.mpr ⟨trivial, List.forall_mem_cons.mpr ⟨trivial, List.forall_mem_cons.mpr ⟨trivial, List.forall_mem_cons.mpr ⟨trivial, List.forall_mem_cons.mpr ⟨trivial, List.forall_mem_cons.mpr ⟨trivial, List.forall_mem_cons.mpr ⟨trivial, List.forall_mem_cons.mpr ⟨w_108 _, List.forall_mem_cons.mpr ⟨trivial, List.forall_mem_cons.mpr ⟨trivial, List.forall_mem_cons.mpr ⟨trivial, List.forall_mem_cons.mpr ⟨trivial, List.forall_mem_cons.mpr ⟨trivial, List.forall_mem_cons.mpr ⟨w_100 _, List.forall_mem_cons.mpr ⟨trivial, List.forall_mem_cons.mpr ⟨trivial, List.forall_mem_cons.mpr ⟨w_152 _, List.forall_mem_cons.mpr ⟨w_122 _, List.forall_mem_cons.mpr ⟨trivial, List.forall_mem_cons.mpr ⟨trivial, List.forall_mem_cons.mpr ⟨trivial, List.forall_mem_cons.mpr ⟨trivial, List.forall_mem_cons.mpr ⟨trivial, List.forall_mem_cons.mpr ⟨trivial, List.forall_mem_cons.mpr ⟨w_106 _, List.forall_mem_cons.mpr ⟨trivial, List.forall_mem_cons.mpr ⟨trivial, List.forall_mem_cons.mpr ⟨w_100 _, List.forall_mem_cons.mpr ⟨trivial, List.forall_mem_cons.mpr ⟨trivial, List.forall_mem_cons.mpr ⟨trivial, List.forall_mem_cons.mpr ⟨w_158 _, List.forall_mem_cons.mpr ⟨trivial, List.forall_mem_cons.mpr ⟨trivial, List.forall_mem_cons.mpr ⟨trivial, List.forall_mem_cons.mpr ⟨trivial, List.forall_mem_cons.mpr ⟨trivial, List.forall_mem_cons.mpr ⟨trivial, List.forall_mem_cons.mpr ⟨trivial, List.forall_mem_cons.mpr ⟨trivial, List.forall_mem_cons.mpr ⟨trivial, List.forall_mem_cons.mpr ⟨trivial, List.forall_mem_cons.mpr ⟨trivial, List.forall_mem_cons.mpr ⟨trivial, List.forall_mem_cons.mpr ⟨trivial, fun _ h => absurd h List.not_mem_nil⟩⟩⟩⟩⟩⟩⟩⟩⟩⟩⟩⟩⟩⟩⟩⟩⟩⟩⟩⟩⟩⟩⟩⟩⟩⟩⟩⟩⟩⟩⟩⟩⟩⟩⟩⟩⟩⟩⟩⟩⟩⟩⟩⟩⟩⟩⟩⟩⟩⟩⟩⟩⟩⟩⟩⟩⟩
theorem ok_X4_whyNotEvicted : ev_ok tbs t_X4_whyNotEvicted := ⟨rfl, by decide +kernel, fun q hq => ⟨List.all_eq_true.mp kb_X4_whyNotEvicted q hq, kw_X4_whyNotEvicted q hq⟩⟩
set_option maxRecDepth 100000 in
theorem kb_X4_whyNotReloaded : t_X4_whyNotReloaded.2.all (fun q => ev_okB t_X4_whyNotReloaded.1.2.2.1 q.1 q.2) = true := by decide +kernel
set_option maxRecDepth 100000 in
set_option maxHeartbeats 4000000 in
theorem kw_X4_whyNotReloaded : ∀ q ∈ t_X4_whyNotReloaded.2, ev_okW tbs t_X4_whyNotReloaded.1.1 t_X4_whyNotReloaded.1.2.1.name q.2.2.2.1 q.2.2.2.2.1 q.2.2.2.2.2.1 q.2.2.2.2.2.2 q.2.1 := List.forall_mem_cons.mpr ⟨trivial, List.forall_mem_cons.mpr ⟨trivial, List.forall_mem_cons.mpr ⟨trivial, List.forall_mem_cons.mpr ⟨w_108 _, List.forall_mem_cons.mpr ⟨trivial, List.forall_mem_cons.mpr ⟨trivial, List.forall_mem_cons.mpr ⟨trivial, List.forall_mem_cons.mpr ⟨trivial, List.forall_mem_cons.mpr ⟨w_108 _, List.forall_mem_cons.mpr ⟨trivial, List.forall_mem_cons.mpr ⟨trivial, List.forall_mem_cons.mpr ⟨trivial, List.forall_mem_cons.mpr ⟨trivial, List.forall_mem_cons.mpr ⟨w_108 _, List.forall_mem_cons.mpr ⟨trivial, List.forall_mem_cons.mpr ⟨trivial, List.forall_mem_cons.mpr ⟨trivial, List.forall_mem_cons.mpr ⟨trivial, List.forall_mem_cons.mpr ⟨trivial, List.forall_mem_cons.mpr ⟨w_122 _, List.forall_mem_cons.mpr ⟨trivial, List.forall_mem_cons.mpr ⟨trivial, List.forall_mem_cons.mpr ⟨trivial, List.forall_mem_cons.mpr ⟨trivial, List.forall_mem_cons.mpr ⟨trivial, List.forall_mem_cons.mpr ⟨trivial, List.forall_mem_cons.mpr ⟨w_106 _, List.forall_mem_cons.mpr ⟨trivial, List.forall_mem_cons.mpr ⟨trivial, List.forall_mem_cons.mpr ⟨trivial, List.forall_mem_cons.mpr ⟨trivial, List.forall_mem_cons.mpr ⟨w_164 _, List.forall_mem_cons.mpr ⟨trivial, List.forall_mem_cons.mpr ⟨trivial, List.forall_mem_cons.mpr ⟨trivial, List.forall_mem_cons.mpr ⟨trivial, List.forall_mem_cons.mpr ⟨w_107 _, List.forall_mem_cons.mpr ⟨trivial, List.forall_mem_cons.mpr ⟨trivial, List.forall_mem_cons.mpr ⟨trivial, List.forall_mem_cons.mpr ⟨w_107 _, List.forall_mem_cons.mpr ⟨trivial, List.forall_mem_cons.mpr ⟨trivial, List.forall_mem_cons.mpr ⟨w_165 _, List.forall_mem_cons.mpr ⟨trivial, List.forall_mem_cons.mpr ⟨trivial, List.forall_mem_cons.mpr ⟨trivial, List.forall_mem_cons.mpr ⟨trivial, List.forall_mem_cons.mpr ⟨trivial, List.forall_mem_cons.mpr ⟨trivial, List.forall_mem_cons.mpr ⟨trivial, List.forall_mem_cons.mpr ⟨w_100 _, List.forall_mem_cons.mpr ⟨trivial, List.forall_mem_cons.mpr ⟨trivial, List.forall_mem_cons.mpr ⟨trivial, List.forall_mem_cons.mpr ⟨w_158 _, List.forall_mem_cons.mpr ⟨trivial, List.forall_mem_cons.mpr ⟨trivial, List.forall_mem_cons.mpr ⟨trivial, List.forall_mem_cons.mpr ⟨trivial, List.forall_mem_cons.mpr ⟨trivial, List.forall_mem_cons.mpr ⟨trivial, List.forall_mem_cons.mpr ⟨trivial, List.forall_mem_cons.mpr ⟨trivial, List.forall_mem_cons.mpr ⟨trivial, List.forall_mem_cons.mpr ⟨w_107 _, List.forall_mem_cons.mpr ⟨trivial, List.forall_mem_cons.mpr ⟨trivial, List.forall_mem_cons.mpr ⟨trivial, List.forall_mem_cons.mpr ⟨w_100 _, List.forall_mem_cons.mpr ⟨trivial, List.forall_mem_cons.mpr ⟨trivial, List.forall_mem_cons.mpr ⟨w_155 _, List.forall_mem_cons.mpr ⟨trivial, List.forall_mem_cons.mpr ⟨trivial, List.forall_mem_cons.mpr ⟨trivial, List.forall_mem_cons.mpr ⟨trivial, List.forall_mem_cons.mpr ⟨trivial, fun _ h => absurd h List.not_mem_nil⟩⟩⟩⟩⟩⟩⟩⟩⟩⟩⟩⟩⟩⟩⟩⟩⟩⟩⟩⟩⟩⟩⟩⟩⟩⟩⟩⟩⟩⟩⟩⟩⟩⟩⟩⟩⟩⟩⟩⟩⟩⟩⟩⟩⟩⟩⟩⟩⟩⟩⟩⟩⟩⟩⟩⟩⟩⟩⟩⟩⟩⟩⟩⟩⟩⟩⟩⟩⟩⟩⟩⟩⟩⟩⟩⟩⟩⟩
theorem ok_X4_whyNotReloaded : ev_ok tbs t_X4_whyNotReloaded := ⟨rfl, by decide +kernel, fun q hq => ⟨List.all_eq_true.mp kb_X4_whyNotReloaded q hq, kw_X4_whyNotReloaded q hq⟩⟩
set_option maxRecDepth 100000 in
theorem kb_X4_isTagged : t_X4_isTagged.2.all (fun q => ev_okB t_X4_isTagged.1.2.2.1 q.1 q.2) = true := by decide +kernel
set_option maxRecDepth 100000 in
set_option maxHeartbeats 4000000 in
theorem kw_X4_isTagged : ∀ q ∈ t_X4_isTagged.2, ev_okW tbs t_X4_isTagged.1.1 t_X4_isTagged.1.2.1.name q.2.2.2.1 q.2.2.2.2.1 q.2.2.2.2.2.1 q.2.2.2.2.2.2 q.2.1 := List.forall_mem_cons.mpr ⟨trivial, List.forall_mem_cons.mpr ⟨w_166 _, List.forall_mem_cons.mpr ⟨trivial, List.forall_mem_cons.mpr ⟨w_107 _, List.forall_mem_cons.mpr ⟨trivial, List.forall_mem_cons.mpr ⟨trivial, List.forall_mem_cons.mpr ⟨w_167 _, List.forall_mem_cons.mpr ⟨trivial, List.forall_mem_cons.mpr ⟨w_168 _, List.forall_mem_cons.mpr ⟨trivial, List.forall_mem_cons.mpr ⟨trivial, List.forall_mem_cons.mpr ⟨trivial, List.forall_mem_cons.mpr ⟨trivial, List.forall_mem_cons.mpr ⟨trivial, List.forall_mem_cons.mpr ⟨trivial, List.forall_mem_cons.mpr ⟨trivial, List.forall_mem_cons.mpr ⟨trivial, List.forall_mem_cons.mpr ⟨trivial, List.forall_mem_cons.mpr ⟨w_167 _, List.forall_mem_cons.mpr ⟨trivial, List.forall_mem_cons.mpr ⟨trivial, List.forall_mem_cons.mpr ⟨trivial, List.forall_mem_cons.mpr ⟨w_107 _, List.forall_mem_cons.mpr ⟨trivial, List.forall_mem_cons.mpr ⟨trivial, List.forall_mem_cons.mpr ⟨trivial, List.forall_mem_cons.mpr ⟨trivial, List.forall_mem_cons.mpr ⟨trivial, List.forall_mem_cons.mpr ⟨trivial, List.forall_mem_cons.mpr ⟨trivial, List.forall_mem_cons.mpr ⟨trivial, List.forall_mem_cons.mpr ⟨trivial, List.forall_mem_cons.mpr ⟨trivial, List.forall_mem_cons.mpr ⟨trivial, List.forall_mem_cons.mpr ⟨trivial, List.forall_mem_cons.mpr ⟨trivial, List.forall_mem_cons.mpr ⟨trivial, List.forall_mem_cons.mpr ⟨trivial, fun _ h => absurd h List.not_mem_nil⟩⟩⟩⟩⟩⟩⟩⟩⟩⟩⟩⟩⟩⟩⟩⟩⟩⟩⟩⟩⟩⟩⟩⟩⟩⟩⟩⟩⟩⟩⟩⟩⟩⟩⟩⟩⟩⟩
theorem ok_X4_isTagged : ev_ok tbs t_X4_isTagged := ⟨rfl, by decide +kernel, fun q hq => ⟨List.all_eq_true.mp kb_X4_isTagged q hq, kw_X4_isTagged q hq⟩⟩
set_option maxRecDepth 100000 in
theorem kb_X4_writeBlob : t_X4_writeBlob.2.all (fun q => ev_okB t_X4_writeBlob.1.2.2.1 q.1 q.2) = true := by decide +kernel
set_option maxRecDepth 100000 in
set_option maxHeartbeats 4000000 in
theorem kw_X4_writeBlob : ∀ q ∈ t_X4_writeBlob.2, ev_okW tbs t_X4_writeBlob.1.1 t_X4_writeBlob.1.2.1.name q.2.2.2.1 q.2.2.2.2.1 q.2.2.2.2.2.1 q.2.2.2.2.2.2 q.2.1 := List.forall_mem_cons.mpr ⟨trivial, List.forall_mem_cons.mpr ⟨w_107 _, List.forall_mem_cons.mpr ⟨trivial, List.forall_mem_cons.mpr ⟨trivial, List.forall_mem_cons.mpr ⟨w_151 _, List.forall_mem_cons.mpr ⟨trivial, List.forall_mem_cons.mpr ⟨trivial, List.forall_mem_cons.mpr ⟨w_107 _, List.forall_mem_cons.mpr ⟨trivial, List.forall_mem_cons.mpr ⟨trivial, List.forall_mem_cons.mpr ⟨w_153 _, List.forall_mem_cons.mpr ⟨trivial, List.forall_mem_cons.mpr ⟨trivial, List.forall_mem_cons.mpr ⟨w_107 _, List.forall_mem_cons.mpr ⟨trivial, List.forall_mem_cons.mpr ⟨trivial, List.forall_mem_cons.mpr ⟨w_154 _, List.forall_mem_cons.mpr ⟨trivial, List.forall_mem_cons.mpr ⟨trivial, List.forall_mem_cons.mpr ⟨w_107 _, List.forall_mem_cons.mpr ⟨trivial, List.forall_mem_cons.mpr ⟨trivial, List.forall_mem_cons.mpr ⟨w_100 _, List.forall_mem_cons.mpr ⟨trivial, List.forall_mem_cons.mpr ⟨w_152 _, List.forall_mem_cons.mpr ⟨trivial, List.forall_mem_cons.mpr ⟨w_155 _, List.forall_mem_cons.mpr ⟨trivial, List.forall_mem_cons.mpr ⟨trivial, List.forall_mem_cons.mpr ⟨w_107 _, List.forall_mem_cons.mpr ⟨trivial, List.forall_mem_cons.mpr ⟨trivial, List.forall_mem_cons.mpr ⟨trivial, List.forall_mem_cons.mpr ⟨trivial, List.forall_mem_cons.mpr ⟨trivial, List.forall_mem_cons.mpr ⟨trivial, List.forall_mem_cons.mpr ⟨trivial, List.forall_mem_cons.mpr ⟨w_107 _, List.forall_mem_cons.mpr ⟨trivial, List.forall_mem_cons.mpr ⟨trivial, List.forall_mem_cons.mpr ⟨trivial, List.forall_mem_cons.mpr ⟨trivial, List.forall_mem_cons.mpr ⟨trivial, List.forall_mem_cons.mpr ⟨w_107 _, List.forall_mem_cons.mpr ⟨trivial, List.forall_mem_cons.mpr ⟨trivial, List.forall_mem_cons.mpr ⟨trivial, List.forall_mem_cons.mpr ⟨trivial, List.forall_mem_cons.mpr ⟨w_107 _, List.forall_mem_cons.mpr ⟨trivial, List.forall_mem_cons.mpr ⟨trivial, List.forall_mem_cons.mpr ⟨trivial, List.forall_mem_cons.mpr ⟨trivial, List.forall_mem_cons.mpr ⟨w_116 _, List.forall_mem_cons.mpr ⟨trivial, List.forall_mem_cons.mpr ⟨trivial, List.forall_mem_cons.mpr ⟨w_107 _, List.forall_mem_cons.mpr ⟨trivial, List.forall_mem_cons.mpr ⟨trivial, List.forall_mem_cons.mpr ⟨w_121 _, List.forall_mem_cons.mpr ⟨trivial, List.forall_mem_cons.mpr ⟨w_166 _, List.forall_mem_cons.mpr ⟨trivial, List.forall_mem_cons.mpr ⟨w_107 _, List.forall_mem_cons.mpr ⟨trivial, List.forall_mem_cons.mpr ⟨trivial, List.forall_mem_cons.mpr ⟨w_107 _, List.forall_mem_cons.mpr ⟨trivial, List.forall_mem_cons.mpr ⟨trivial, List.forall_mem_cons.mpr ⟨trivial, List.forall_mem_cons.mpr ⟨w_107 _, List.forall_mem_cons.mpr ⟨trivial, List.forall_mem_cons.mpr ⟨trivial, List.forall_mem_cons.mpr ⟨w_169 _, List.forall_mem_cons.mpr ⟨trivial, List.forall_mem_cons.mpr ⟨w_166 _, List.forall_mem_cons.mpr ⟨trivial, List.forall_mem_cons.mpr ⟨w_107 _, List.forall_mem_cons.mpr ⟨trivial, List.forall_mem_cons.mpr ⟨trivial, List.forall_mem_cons.mpr ⟨w_107 _, List.forall_mem_cons.mpr ⟨trivial, List.forall_mem_cons.mpr ⟨w_168 _, List.forall_mem_cons.mpr ⟨trivial, fun _ h => absurd h List.not_mem_nil⟩⟩⟩⟩⟩⟩⟩⟩⟩⟩⟩⟩⟩⟩⟩⟩⟩⟩⟩⟩⟩⟩⟩⟩⟩⟩⟩⟩⟩⟩⟩⟩⟩⟩⟩⟩⟩⟩⟩⟩⟩⟩⟩⟩⟩⟩⟩⟩⟩⟩⟩⟩⟩⟩⟩⟩⟩⟩⟩⟩⟩⟩⟩⟩⟩⟩⟩⟩⟩⟩⟩⟩⟩⟩⟩⟩⟩⟩⟩⟩⟩⟩⟩⟩
theorem ok_X4_writeBlob : ev_ok tbs t_X4_writeBlob := ⟨rfl, by decide +kernel, fun q hq => ⟨List.all_eq_true.mp kb_X4_writeBlob q hq, kw_X4_writeBlob q hq⟩⟩
set_option maxRecDepth 100000 in
theorem kb_X4_readBlob : t_X4_readBlob.2.all (fun q => ev_okB t_X4_readBlob.1.2.2.1 q.1 q.2) = true := by decide +kernel
set_option maxRecDepth 100000 in
set_option maxHeartbeats 4000000 in
theorem kw_X4_readBlob : ∀ q ∈ t_X4_readBlob.2, ev_okW tbs t_X4_readBlob.1.1 t_X4_readBlob.1.2.1.name q.2.2.2.1 q.2.2.2.2.1 q.2.2.2.2.2.1 q.2.2.2.2.2.2 q.2.1 := List.forall_mem_cons.mpr ⟨trivial, List.forall_mem_cons.mpr ⟨w_107 _, List.forall_mem_cons.mpr ⟨trivial, List.forall_mem_cons.mpr ⟨trivial, List.forall_mem_cons.mpr ⟨trivial, List.forall_mem_cons.mpr ⟨trivial, List.forall_mem_cons.mpr ⟨trivial, List.forall_mem_cons.mpr ⟨trivial, List.forall_mem_cons.mpr ⟨trivial, List.forall_mem_cons.mpr ⟨w_115 _, List.forall_mem_cons.mpr ⟨trivial, List.forall_mem_cons.mpr ⟨trivial, List.forall_mem_cons.mpr ⟨trivial, List.forall_mem_cons.mpr ⟨trivial, List.forall_mem_cons.mpr ⟨w_115 _, List.forall_mem_cons.mpr ⟨trivial, List.forall_mem_cons.mpr ⟨trivial, List.forall_mem_cons.mpr ⟨w_107 _, List.forall_mem_cons.mpr ⟨trivial, List.forall_mem_cons.mpr ⟨trivial, List.forall_mem_cons.mpr ⟨w_119 _, List.forall_mem_cons.mpr ⟨trivial, List.forall_mem_cons.mpr ⟨trivial, List.forall_mem_cons.mpr ⟨w_107 _, List.forall_mem_cons.mpr ⟨trivial, List.forall_mem_cons.mpr ⟨trivial, List.forall_mem_cons.mpr ⟨w_120 _, List.forall_mem_cons.mpr ⟨trivial, List.forall_mem_cons.mpr ⟨w_107 _, List.forall_mem_cons.mpr ⟨trivial, List.forall_mem_cons.mpr ⟨trivial, List.forall_mem_cons.mpr ⟨w_116 _, List.forall_mem_cons.mpr ⟨trivial, List.forall_mem_cons.mpr ⟨trivial, List.forall_mem_cons.mpr ⟨w_121 _, List.forall_mem_cons.mpr ⟨trivial, List.forall_mem_cons.mpr ⟨w_166 _, List.forall_mem_cons.mpr ⟨trivial, List.forall_mem_cons.mpr ⟨w_116 _, List.forall_mem_cons.mpr ⟨trivial, List.forall_mem_cons.mpr ⟨trivial, List.forall_mem_cons.mpr ⟨w_107 _, List.forall_mem_cons.mpr ⟨trivial, List.forall_mem_cons.mpr ⟨trivial, List.forall_mem_cons.mpr ⟨trivial, List.forall_mem_cons.mpr ⟨w_107 _, List.forall_mem_cons.mpr ⟨trivial, List.forall_mem_cons.mpr ⟨trivial, List.forall_mem_cons.mpr ⟨w_169 _, List.forall_mem_cons.mpr ⟨trivial, fun _ h => absurd h List.not_mem_nil⟩⟩⟩⟩⟩⟩⟩⟩⟩⟩⟩⟩⟩⟩⟩⟩⟩⟩⟩⟩⟩⟩⟩⟩⟩⟩⟩⟩⟩⟩⟩⟩⟩⟩⟩⟩⟩⟩⟩⟩⟩⟩⟩⟩⟩⟩⟩⟩⟩⟩
theorem ok_X4_readBlob : ev_ok tbs t_X4_readBlob := ⟨rfl, by decide +kernel, fun q hq => ⟨List.all_eq_true.mp kb_X4_readBlob q hq, kw_X4_readBlob q hq⟩⟩
end
section
set_option maxRecDepth 100000 in
theorem kb_X5_init : t_X5_init.2.all (fun q => ev_okB t_X5_init.1.2.2.1 q.1 q.2) = true := by decide +kernel
set_option maxRecDepth 100000 in
set_option maxHeartbeats 4000000 in
theorem kw_X5_init : ∀ q ∈ t_X5_init.2, ev_okW tbs t_X5_init.1.1 t_X5_init.1.2.1.name q.2.2.2.1 q.2.2.2.2.1 q.2.2.2.2.2.1 q.2.2.2.2.2.2 q.2.1 := List.forall_mem_cons.mpr ⟨trivial, List.forall_mem_cons.mpr ⟨w_170 _, List.forall_mem_cons.mpr ⟨trivial, List.forall_mem_cons.mpr ⟨trivial, List.forall_mem_cons.mpr ⟨trivial, List.forall_mem_cons.mpr ⟨w_171, List.forall_mem_cons.mpr ⟨trivial, List.forall_mem_cons.mpr ⟨trivial, List.forall_mem_cons.mpr ⟨trivial, List.forall_mem_cons.mpr ⟨w_172, List.forall_mem_cons.mpr ⟨trivial, List.forall_mem_cons.mpr ⟨trivial, List.forall_mem_cons.mpr ⟨trivial, List.forall_mem_cons.mpr ⟨w_173, List.forall_mem_cons.mpr ⟨trivial, List.forall_mem_cons.mpr ⟨trivial, List.forall_mem_cons.mpr ⟨trivial, List.forall_mem_cons.mpr ⟨w_174, List.forall_mem_cons.mpr ⟨trivial, List.forall_mem_cons.mpr ⟨trivial, List.forall_mem_cons.mpr ⟨trivial, List.forall_mem_cons.mpr ⟨w_175, List.forall_mem_cons.mpr ⟨trivial, List.forall_mem_cons.mpr ⟨trivial, List.forall_mem_cons.mpr ⟨trivial, List.forall_mem_cons.mpr ⟨w_176, List.forall_mem_cons.mpr ⟨trivial, List.forall_mem_cons.mpr ⟨trivial, List.forall_mem_cons.mpr ⟨trivial, List.forall_mem_cons.mpr ⟨w_177, List.forall_mem_cons.mpr ⟨trivial, List.forall_mem_cons.mpr ⟨trivial, List.forall_mem_cons.mpr ⟨trivial, List.forall_mem_cons.mpr ⟨w_178, List.forall_mem_cons.mpr ⟨trivial, List.forall_mem_cons.mpr ⟨trivial, List.forall_mem_cons.mpr ⟨trivial, List.forall_mem_cons.mpr ⟨w_179, List.forall_mem_cons.mpr ⟨trivial, List.forall_mem_cons.mpr ⟨trivial, List.forall_mem_cons.mpr ⟨trivial, List.forall_mem_cons.mpr ⟨w_180, List.forall_mem_cons.mpr ⟨trivial, List.forall_mem_cons.mpr ⟨trivial, List.forall_mem_cons.mpr ⟨trivial, List.forall_mem_cons.mpr ⟨w_181, List.forall_mem_cons.mpr ⟨trivial, List.forall_mem_cons.mpr ⟨trivial, List.forall_mem_cons.mpr ⟨trivial, List.forall_mem_cons.mpr ⟨w_182, List.forall_mem_cons.mpr ⟨trivial, List.forall_mem_cons.mpr ⟨trivial, List.forall_mem_cons.mpr ⟨trivial, List.forall_mem_cons.mpr ⟨w_183, List.forall_mem_cons.mpr ⟨trivial, List.forall_mem_cons.mpr ⟨trivial, List.forall_mem_cons.mpr ⟨trivial, List.forall_mem_cons.mpr ⟨w_184, List.forall_mem_cons.mpr ⟨trivial, List.forall_mem_cons.mpr ⟨trivial, List.forall_mem_cons.mpr ⟨trivial, List.forall_mem_cons.mpr ⟨w_185, List.forall_mem_cons.mpr ⟨trivial, List.forall_mem_cons.mpr ⟨trivial, List.forall_mem_cons.mpr ⟨trivial, List.forall_mem_cons.mpr ⟨w_186, List.forall_mem_cons.mpr ⟨trivial, List.forall_mem_cons.mpr ⟨trivial, List.forall_mem_cons.mpr ⟨trivial, List.forall_mem_cons.mpr ⟨w_187, List.forall_mem_cons.mpr ⟨trivial, List.forall_mem_cons.mpr ⟨trivial, List.forall_mem_cons.mpr ⟨trivial, List.forall_mem_cons.mpr ⟨w_188, List.forall_mem_cons.mpr ⟨trivial, List.forall_mem_cons.mpr ⟨trivial, List.forall_mem_cons.mpr ⟨w_189, List.forall_mem_cons.mpr ⟨trivial, List.forall_mem_cons.mpr ⟨trivial, List.forall_mem_cons.mpr ⟨w_190, List.forall_mem_cons.mpr ⟨trivial, List.forall_mem_cons.mpr ⟨trivial, List.forall_mem_cons.mpr ⟨trivial, List.forall_mem_cons.mpr ⟨trivial, List.forall_mem_cons.mpr ⟨trivial, List.forall_mem_cons.mpr ⟨trivial, List.forall_mem_cons.mpr ⟨trivial, List.forall_mem_cons.mpr ⟨trivial, List.forall_mem_cons.mpr ⟨trivial, List.forall_mem_cons.mpr ⟨trivial, List.forall_mem_cons.mpr ⟨w_191, List.forall_mem_cons.mpr ⟨trivial, List.forall_mem_cons.mpr ⟨trivial, List.forall_mem_cons.mpr ⟨trivial, List.forall_mem_cons.mpr ⟨trivial, List.forall_mem_cons.mpr ⟨trivial, List.forall_mem_cons.mpr ⟨trivial, List.forall_mem_cons.mpr ⟨w_192 _, List.forall_mem_cons.mpr ⟨trivial, List.forall_mem_cons.mpr ⟨trivial, List.forall_mem_cons.mpr ⟨trivial, List.forall_mem_cons.mpr ⟨trivial, List.forall_mem_cons.mpr ⟨trivial, List.forall_mem_cons.mpr ⟨trivial, List.forall_mem_cons.mpr ⟨w_193 _, List.forall_mem_cons.mpr ⟨trivial, List.forall_mem_cons.mpr ⟨trivial, List.forall_mem_cons.mpr ⟨trivial, List.forall_mem_cons.mpr ⟨trivial, List.forall_mem_cons.mpr ⟨trivial, List.forall_mem_cons.mpr ⟨trivial, List.forall_mem_cons.mpr ⟨trivial, List.forall_mem_cons.mpr ⟨w_193 _, List.forall_mem_cons.mpr ⟨trivial, List.forall_mem_cons.mpr ⟨trivial, List.forall_mem_cons.mpr ⟨trivial, List.forall_mem_cons.mpr ⟨trivial, List.forall_mem_cons.mpr ⟨trivial, List.forall_mem_cons.mpr ⟨w_193 _, List.forall_mem_cons.mpr ⟨trivial, List.forall_mem_cons.mpr ⟨trivial, List.forall_mem_cons.mpr ⟨trivial, List.forall_mem_cons.mpr ⟨trivial, List.forall_mem_cons.mpr ⟨trivial, List.forall_mem_cons.mpr ⟨w_194 _, List.forall_mem_cons.mpr ⟨trivial, List.forall_mem_cons.mpr ⟨trivial, List.forall_mem_cons.mpr ⟨trivial, List.forall_mem_cons.mpr ⟨trivial, List.forall_mem_cons.mpr ⟨trivial, List.forall_mem_cons.mpr ⟨trivial, List.forall_mem_cons.mpr ⟨w_195 _, List.forall_mem_cons.mpr ⟨trivial, List.forall_mem_cons.mpr ⟨trivial, List.forall_mem_cons.mpr ⟨w_196 _, List.forall_mem_cons.mpr ⟨trivial, List.forall_mem_cons.mpr ⟨trivial, List.forall_mem_cons.mpr ⟨trivial, List.forall_mem_cons.mpr ⟨trivial, List.forall_mem_cons.mpr ⟨trivial, List.forall_mem_cons.mpr ⟨trivial, List.forall_mem_cons.mpr ⟨w_193 _, List.forall_mem_cons.mpr ⟨trivial, List.forall_mem_cons.mpr ⟨trivial, List.forall_mem_cons.mpr ⟨trivial, List.forall_mem_cons.mpr ⟨trivial, List.forall_mem_cons.mpr ⟨trivial, List.forall_mem_cons.mpr ⟨w_194 _, List.forall_mem_cons.mpr ⟨trivial, List.forall_mem_cons.mpr ⟨trivial, List.forall_mem_cons.mpr ⟨trivial, List.forall_mem_cons.mpr ⟨trivial, List.forall_mem_cons.mpr ⟨trivial, List.forall_mem_cons.mpr ⟨trivial, List.forall_mem_cons.mpr ⟨w_197 _, List.forall_mem_cons.mpr ⟨trivial, List.forall_mem_cons.mpr ⟨trivial, List.forall_mem_cons.mpr ⟨w_196 _, List.forall_mem_cons.mpr ⟨trivial, List.forall_mem_cons.mpr ⟨trivial, List.forall_mem_cons.mpr ⟨trivial, List.forall_mem_cons.mpr ⟨trivial, List.forall_mem_cons.mpr ⟨trivial, List.forall_mem_cons.mpr ⟨trivial, fun _ h => absurd h List.not_mem_nil⟩⟩⟩⟩⟩⟩⟩⟩⟩⟩⟩⟩⟩⟩⟩⟩⟩⟩⟩⟩⟩⟩⟩⟩⟩⟩⟩⟩⟩⟩⟩⟩⟩⟩⟩⟩⟩⟩⟩⟩⟩⟩⟩⟩⟩⟩⟩⟩⟩⟩⟩⟩⟩⟩⟩⟩⟩⟩⟩⟩⟩⟩⟩⟩⟩⟩⟩⟩⟩⟩⟩⟩⟩⟩⟩⟩⟩⟩⟩⟩⟩⟩⟩⟩⟩⟩⟩⟩⟩⟩⟩⟩⟩⟩⟩⟩⟩⟩⟩⟩⟩⟩⟩⟩⟩⟩⟩⟩⟩⟩⟩⟩⟩⟩⟩⟩⟩⟩⟩⟩⟩⟩⟩⟩⟩⟩⟩⟩⟩⟩⟩⟩⟩⟩⟩⟩⟩⟩⟩⟩⟩⟩⟩⟩⟩⟩⟩⟩⟩⟩⟩⟩⟩⟩⟩⟩⟩⟩⟩⟩⟩⟩⟩⟩
theorem ok_X5_init : ev_ok tbs t_X5_init := ⟨rfl, by decide +kernel, fun q hq => ⟨List.all_eq_true.mp kb_X5_init q hq, kw_X5_init q hq⟩⟩
set_option maxRecDepth 100000 in
theorem kb_X5_thrown : t_X5_thrown.2.all (fun q => ev_okB t_X5_thrown.1.2.2.1 q.1 q.2) = true := by decide +kernel
set_option maxRecDepth 100000 in
set_option maxHeartbeats 4000000 in
theorem kw_X5_thrown : ∀ q ∈ t_X5_thrown.2, ev_okW tbs t_X5_thrown.1.1 t_X5_thrown.1.2.1.name q.2.2.2.1 q.2.2.2.2.1 q.2.2.2.2.2.1 q.2.2.2.2.2.2 q.2.1 := List.forall_mem_cons.mpr ⟨trivial, List.forall_mem_cons.mpr ⟨w_198 _, List.forall_mem_cons.mpr ⟨trivial, fun _ h => absurd h List.not_mem_nil⟩⟩⟩
theorem ok_X5_thrown : ev_ok tbs t_X5_thrown := ⟨rfl, by decide +kernel, fun q hq => ⟨List.all_eq_true.mp kb_X5_thrown q hq, kw_X5_thrown q hq⟩⟩
set_option maxRecDepth 100000 in
theorem kb_X5_right : t_X5_right.2.all (fun q => ev_okB t_X5_right.1.2.2.1 q.1 q.2) = true := by decide +kernel
set_option maxRecDepth 100000 in
set_option maxHeartbeats 4000000 in
theorem kw_X5_right : ∀ q ∈ t_X5_right.2, ev_okW tbs t_X5_right.1.1 t_X5_right.1.2.1.name q.2.2.2.1 q.2.2.2.2.1 q.2.2.2.2.2.1 q.2.2.2.2.2.2 q.2.1 := List.forall_mem_cons.mpr ⟨trivial, List.forall_mem_cons.mpr ⟨trivial, List.forall_mem_cons.mpr ⟨trivial, List.forall_mem_cons.mpr ⟨trivial, List.forall_mem_cons.mpr ⟨trivial, List.forall_mem_cons.mpr ⟨trivial, List.forall_mem_cons.mpr ⟨trivial, List.forall_mem_cons.mpr ⟨trivial, List.forall_mem_cons.mpr ⟨trivial, List.forall_mem_cons.mpr ⟨trivial, fun _ h => absurd h List.not_mem_nil⟩⟩⟩⟩⟩⟩⟩⟩⟩⟩
theorem ok_X5_right : ev_ok tbs t_X5_right := ⟨rfl, by decide +kernel, fun q hq => ⟨List.all_eq_true.mp kb_X5_right q hq, kw_X5_right q hq⟩⟩
set_option maxRecDepth 100000 in
theorem kb_X5_digest : t_X5_digest.2.all (fun q => ev_okB t_X5_digest.1.2.2.1 q.1 q.2) = true := by decide +kernel
set_option maxRecDepth 100000 in
set_option maxHeartbeats 4000000 in
theorem kw_X5_digest : ∀ q ∈ t_X5_digest.2, ev_okW tbs t_X5_digest.1.1 t_X5_digest.1.2.1.name q.2.2.2.1 q.2.2.2.2.1 q.2.2.2.2.2.1 q.2.2.2.2.2.2 q.2.1 := List.forall_mem_cons.mpr ⟨trivial, List.forall_mem_cons.mpr ⟨trivial, List.forall_mem_cons.mpr ⟨trivial, List.forall_mem_cons.mpr ⟨trivial, List.forall_mem_cons.mpr ⟨trivial, List.forall_mem_cons.mpr ⟨trivial, List.forall_mem_cons.mpr ⟨trivial, List.forall_mem_cons.mpr ⟨trivial, List.forall_mem_cons.mpr ⟨trivial, List.forall_mem_cons.mpr ⟨trivial, List.forall_mem_cons.mpr ⟨trivial, List.forall_mem_cons.mpr ⟨trivial, List.forall_mem_cons.mpr ⟨trivial, List.forall_mem_cons.mpr ⟨trivial, List.forall_mem_cons.mpr ⟨trivial, List.forall_mem_cons.mpr ⟨trivial, List.forall_mem_cons.mpr ⟨w_193 _, List.forall_mem_cons.mpr ⟨trivial, List.forall_mem_cons.mpr ⟨trivial, List.forall_mem_cons.mpr ⟨trivial, List.forall_mem_cons.mpr ⟨trivial, List.forall_mem_cons.mpr ⟨trivial, List.forall_mem_cons.mpr ⟨trivial, List.forall_mem_cons.mpr ⟨w_193 _, List.forall_mem_cons.mpr ⟨trivial, List.forall_mem_cons.mpr ⟨w_199 _, List.forall_mem_cons.mpr ⟨trivial, List.forall_mem_cons.mpr ⟨trivial, List.forall_mem_cons.mpr ⟨w_193 _, List.forall_mem_cons.mpr ⟨trivial, List.forall_mem_cons.mpr ⟨trivial, List.forall_mem_cons.mpr ⟨trivial, List.forall_mem_cons.mpr ⟨trivial, List.forall_mem_cons.mpr ⟨trivial, List.forall_mem_cons.mpr ⟨trivial, List.forall_mem_cons.mpr ⟨trivial, List.forall_mem_cons.mpr ⟨trivial, List.forall_mem_cons.mpr ⟨trivial, List.forall_mem_cons.mpr ⟨trivial, List.forall_mem_cons.mpr ⟨trivial, List.forall_mem_cons.mpr ⟨trivial, List.forall_mem_cons.mpr ⟨trivial, List.forall_mem_cons.mpr ⟨trivial, List.forall_mem_cons.mpr ⟨trivial, List.forall_mem_cons.mpr ⟨w_196 _, List.forall_mem_cons.mpr ⟨trivial, List.forall_mem_cons.mpr ⟨w_200 _, List.forall_mem_cons.mpr ⟨trivial, List.forall_mem_cons.mpr ⟨trivial, List.forall_mem_cons.mpr ⟨trivial, List.forall_mem_cons.mpr ⟨trivial, List.forall_mem_cons.mpr ⟨trivial, List.forall_mem_cons.mpr ⟨trivial, List.forall_mem_cons.mpr ⟨trivial, List.forall_mem_cons.mpr ⟨trivial, List.forall_mem_cons.mpr ⟨trivial, List.forall_mem_cons.mpr ⟨trivial, List.forall_mem_cons.mpr ⟨trivial, List.forall_mem_cons.mpr ⟨trivial, List.forall_mem_cons.mpr ⟨trivial, List.forall_mem_cons.mpr ⟨trivial, List.forall_mem_cons.mpr ⟨w_201 _, List.forall_mem_cons.mpr ⟨trivial, List.forall_mem_cons.mpr ⟨trivial, List.forall_mem_cons.mpr ⟨trivial, fun _ h => absurd h List.not_mem_nil⟩⟩⟩⟩⟩⟩⟩⟩⟩⟩⟩⟩⟩⟩⟩⟩⟩⟩⟩⟩⟩⟩⟩⟩⟩⟩⟩⟩⟩⟩⟩⟩⟩⟩⟩⟩⟩⟩⟩⟩⟩⟩⟩⟩⟩⟩⟩⟩⟩⟩⟩⟩⟩⟩⟩⟩⟩⟩⟩⟩⟩⟩⟩⟩⟩
theorem ok_X5_digest : ev_ok tbs t_X5_digest := ⟨rfl, by decide +kernel, fun q hq => ⟨List.all_eq_true.mp kb_X5_digest q hq, kw_X5_digest q hq⟩⟩
set_option maxRecDepth 100000 in
theorem kb_X5_block : t_X5_block.2.all (fun q => ev_okB t_X5_block.1.2.2.1 q.1 q.2) = true := by decide +kernel
set_option maxRecDepth 100000 in
set_option maxHeartbeats 4000000 in
theorem kw_X5_block : ∀ q ∈ t_X5_block.2, ev_okW tbs t_X5_block.1.1 t_X5_block.1.2.1.name q.2.2.2.1 q.2.2.2.2.1 q.2.2.2.2.2.1 q.2.2.2.2.2.2 q.2.1 := List.forall_mem_cons.mpr ⟨trivial, List.forall_mem_cons.mpr ⟨trivial, List.forall_mem_cons.mpr ⟨trivial, List.forall_mem_cons.mpr ⟨trivial, List.forall_mem_cons.mpr ⟨trivial, List.forall_mem_cons.mpr ⟨trivial, List.forall_mem_cons.mpr ⟨trivial, List.forall_mem_cons.mpr ⟨trivial, List.forall_mem_cons.mpr ⟨trivial, List.forall_mem_cons.mpr ⟨w_202 _, List.forall_mem_cons.mpr ⟨trivial, List.forall_mem_cons.mpr ⟨trivial, List.forall_mem_cons.mpr ⟨w_193 _, List.forall_mem_cons.mpr ⟨trivial, List.forall_mem_cons.mpr ⟨trivial, List.forall_mem_cons.mpr ⟨trivial, List.forall_mem_cons.mpr ⟨trivial, List.forall_mem_cons.mpr ⟨trivial, List.forall_mem_cons.mpr ⟨trivial, List.forall_mem_cons.mpr ⟨trivial, List.forall_mem_cons.mpr ⟨w_202 _, List.forall_mem_cons.mpr ⟨trivial, List.forall_mem_cons.mpr ⟨trivial, List.forall_mem_cons.mpr ⟨trivial, List.forall_mem_cons.mpr ⟨trivial, List.forall_mem_cons.mpr ⟨trivial, List.forall_mem_cons.mpr ⟨trivial, List.forall_mem_cons.mpr ⟨w_202 _, List.forall_mem_cons.mpr ⟨trivial, List.forall_mem_cons.mpr ⟨trivial, List.forall_mem_cons.mpr ⟨trivial, List.forall_mem_cons.mpr ⟨trivial, List.forall_mem_cons.mpr ⟨trivial, List.forall_mem_cons.mpr ⟨trivial, List.forall_mem_cons.mpr ⟨w_202 _, List.forall_mem_cons.mpr ⟨trivial, List.forall_mem_cons.mpr ⟨trivial, List.forall_mem_cons.mpr ⟨w_202 _, List.forall_mem_cons.mpr ⟨trivial, List.forall_mem_cons.mpr ⟨trivial, List.forall_mem_cons.mpr ⟨trivial, List.forall_mem_cons.mpr ⟨trivial, List.forall_mem_cons.mpr ⟨trivial, List.forall_mem_cons.mpr ⟨trivial, List.forall_mem_cons.mpr ⟨w_203 _, List.forall_mem_cons.mpr ⟨trivial, List.forall_mem_cons.mpr ⟨trivial, List.forall_mem_cons.mpr ⟨w_203 _, List.forall_mem_cons.mpr ⟨trivial, List.forall_mem_cons.mpr ⟨trivial, List.forall_mem_cons.mpr ⟨trivial, List.forall_mem_cons.mpr ⟨trivial, List.forall_mem_cons.mpr ⟨trivial, List.forall_mem_cons.mpr ⟨trivial, List.forall_mem_cons.mpr ⟨trivial, List.forall_mem_cons.mpr ⟨w_202 _, List.forall_mem_cons.mpr ⟨trivial, List.forall_mem_cons.mpr ⟨trivial, List.forall_mem_cons.mpr ⟨trivial, List.forall_mem_cons.mpr ⟨trivial, List.forall_mem_cons.mpr ⟨trivial, List.forall_mem_cons.mpr ⟨trivial, List.forall_mem_cons.mpr ⟨trivial, List.forall_mem_cons.mpr ⟨w_203 _, List.forall_mem_cons.mpr ⟨trivial, List.forall_mem_cons.mpr ⟨trivial, List.forall_mem_cons.mpr ⟨w_203 _, List.forall_mem_cons.mpr ⟨trivial, List.forall_mem_cons.mpr ⟨trivial, List.forall_mem_cons.mpr ⟨trivial, List.forall_mem_cons.mpr ⟨trivial, List.forall_mem_cons.mpr ⟨trivial, List.forall_mem_cons.mpr ⟨trivial, List.forall_mem_cons.mpr ⟨trivial, List.forall_mem_cons.mpr ⟨trivial, List.forall_mem_cons.mpr ⟨trivial, List.forall_mem_cons.mpr ⟨trivial, List.forall_mem_cons.mpr ⟨trivial, List.forall_mem_cons.mpr ⟨trivial, List.forall_mem_cons.mpr ⟨trivial, List.forall_mem_cons.mpr ⟨trivial, List.forall_mem_cons.mpr ⟨trivial, List.forall_mem_cons.mpr ⟨w_204 _, List.forall_mem_cons.mpr ⟨trivial, List.forall_mem_cons.mpr ⟨trivial, List.forall_mem_cons.mpr ⟨w_196 _, List.forall_mem_cons.mpr ⟨trivial, List.forall_mem_cons.mpr ⟨trivial, List.forall_mem_cons.mpr ⟨trivial, List.forall_mem_cons.mpr ⟨trivial, List.forall_mem_cons.mpr ⟨trivial, List.forall_mem_cons.mpr ⟨trivial, List.forall_mem_cons.mpr ⟨trivial, List.forall_mem_cons.mpr ⟨trivial, List.forall_mem_cons.mpr ⟨trivial, List.forall_mem_cons.mpr ⟨trivial, List.forall_mem_cons.mpr ⟨trivial, List.forall_mem_cons.mpr ⟨w_204 _, List.forall_mem_cons.mpr ⟨trivial, List.forall_mem_cons.mpr ⟨trivial, List.forall_mem_cons.mpr ⟨trivial, List.forall_mem_cons.mpr ⟨trivial, List.forall_mem_cons.mpr ⟨w_204 _, List.forall_mem_cons.mpr ⟨trivial, List.forall_mem_cons.mpr ⟨trivial, List.forall_mem_cons.mpr ⟨trivial, List.forall_mem_cons.mpr ⟨trivial, List.forall_mem_cons.mpr ⟨w_204 _, List.forall_mem_cons.mpr ⟨trivial, List.forall_mem_cons.mpr ⟨trivial, List.forall_mem_cons.mpr ⟨trivial, List.forall_mem_cons.mpr ⟨trivial, List.forall_mem_cons.mpr ⟨w_203 _, List.forall_mem_cons.mpr ⟨trivial, List.forall_mem_cons.mpr ⟨trivial, List.forall_mem_cons.mpr ⟨w_203 _, List.forall_mem_cons.mpr ⟨trivial, List.forall_mem_cons.mpr ⟨trivial, List.forall_mem_cons.mpr ⟨trivial, List.forall_mem_cons.mpr ⟨w_203 _, List.forall_mem_cons.mpr ⟨trivial, List.forall_mem_cons.mpr ⟨trivial, List.forall_mem_cons.mpr ⟨trivial, List.forall_mem_cons.mpr ⟨trivial, List.forall_mem_cons.mpr ⟨w_204 _, List.forall_mem_cons.mpr ⟨trivial, List.forall_mem_cons.mpr ⟨trivial, List.forall_mem_cons.mpr ⟨trivial, List.forall_mem_cons.mpr ⟨trivial, List.forall_mem_cons.mpr ⟨trivial, List.forall_mem_cons.mpr ⟨trivial, List.forall_mem_cons.mpr ⟨trivial, List.forall_mem_cons.mpr ⟨w_204 _, List.forall_mem_cons.mpr ⟨trivial, List.forall_mem_cons.mpr ⟨trivial, List.forall_mem_cons.mpr ⟨trivial, List.forall_mem_cons.mpr ⟨trivial, List.forall_mem_cons.mpr ⟨trivial, List.forall_mem_cons.mpr ⟨w_205 _, List.forall_mem_cons.mpr ⟨trivial, List.forall_mem_cons.mpr ⟨trivial, List.forall_mem_cons.mpr ⟨trivial, List.forall_mem_cons.mpr ⟨trivial, List.forall_mem_cons.mpr ⟨w_202 _, List.forall_mem_cons.mpr ⟨trivial, List.forall_mem_cons.mpr ⟨trivial, List.forall_mem_cons.mpr ⟨trivial, List.forall_mem_cons.mpr ⟨trivial, List.forall_mem_cons.mpr ⟨trivial, List.forall_mem_cons.mpr ⟨trivial, List.forall_mem_cons.mpr ⟨w_203 _, List.forall_mem_cons.mpr ⟨trivial, List.forall_mem_cons.mpr ⟨trivial, List.forall_mem_cons.mpr ⟨w_203 _, List.forall_mem_cons.mpr ⟨trivial, List.forall_mem_cons.mpr ⟨trivial, List.forall_mem_cons.mpr ⟨trivial, List.forall_mem_cons.mpr ⟨w_203 _, List.forall_mem_cons.mpr ⟨trivial, List.forall_mem_cons.mpr ⟨trivial, List.forall_mem_cons.mpr ⟨trivial, List.forall_mem_cons.mpr ⟨w_204 _, List.forall_mem_cons.mpr ⟨trivial, List.forall_mem_cons.mpr ⟨trivial, List.forall_mem_cons.mpr ⟨trivial, List.forall_mem_cons.mpr ⟨trivial, List.forall_mem_cons.mpr ⟨trivial, List.forall_mem_cons.mpr ⟨w_204 _, List.forall_mem_cons.mpr ⟨trivial, List.forall_mem_cons.mpr ⟨trivial, List.forall_mem_cons.mpr ⟨trivial, List.forall_mem_cons.mpr ⟨trivial, List.forall_mem_cons.mpr ⟨trivial, List.forall_mem_cons.mpr ⟨w_204 _, List.forall_mem_cons.mpr ⟨trivial, List.forall_mem_cons.mpr ⟨trivial, List.forall_mem_cons.mpr ⟨trivial, List.forall_mem_cons.mpr ⟨w_204 _, List.forall_mem_cons.mpr ⟨trivial, List.forall_mem_cons.mpr ⟨trivial, List.forall_mem_cons.mpr ⟨trivial, List.forall_mem_cons.mpr ⟨trivial, List.forall_mem_cons.mpr ⟨trivial, List.forall_mem_cons.mpr ⟨trivial, List.forall_mem_cons.mpr ⟨trivial, List.forall_mem_cons.mpr ⟨trivial, List.forall_mem_cons.mpr ⟨trivial, List.forall_mem_cons.mpr ⟨trivial, List.forall_mem_cons.mpr ⟨trivial, List.forall_mem_cons.mpr ⟨w_204 _, List.forall_mem_cons.mpr ⟨trivial, List.forall_mem_cons.mpr ⟨trivial, List.forall_mem_cons.mpr ⟨w_204 _, List.forall_mem_cons.mpr ⟨trivial, List.forall_mem_cons.mpr ⟨trivial, List.forall_mem_cons.mpr ⟨trivial, List.forall_mem_cons.mpr ⟨trivial, List.forall_mem_cons.mpr ⟨trivial, List.forall_mem_cons.mpr ⟨trivial, List.forall_mem_cons.mpr ⟨trivial, List.forall_mem_cons.mpr ⟨trivial, List.forall_mem_cons.mpr ⟨w_204 _, List.forall_mem_cons.mpr ⟨trivial, List.forall_mem_cons.mpr ⟨trivial, List.forall_mem_cons.mpr ⟨trivial, List.forall_mem_cons.mpr ⟨trivial, List.forall_mem_cons.mpr ⟨trivial, List.forall_mem_cons.mpr ⟨trivial, List.forall_mem_cons.mpr ⟨trivial, List.forall_mem_cons.mpr ⟨w_204 _, List.forall_mem_cons.mpr ⟨trivial, List.forall_mem_cons.mpr ⟨trivial, List.forall_mem_cons.mpr ⟨trivial, List.forall_mem_cons.mpr ⟨trivial, List.forall_mem_cons.mpr ⟨trivial, List.forall_mem_cons.mpr ⟨trivial, List.forall_mem_cons.mpr ⟨trivial, List.forall_mem_cons.mpr ⟨trivial, List.forall_mem_cons.mpr ⟨trivial, List.forall_mem_cons.mpr ⟨trivial, List.forall_mem_cons.mpr ⟨trivial, List.forall_mem_cons.mpr ⟨trivial, List.forall_mem_cons.mpr ⟨trivial, List.forall_mem_cons.mpr ⟨w_196 _, List.forall_mem_cons.mpr ⟨trivial, List.forall_mem_cons.mpr ⟨trivial, List.forall_mem_cons.mpr ⟨trivial, List.forall_mem_cons.mpr ⟨trivial, List.forall_mem_cons.mpr ⟨w_204 _, List.forall_mem_cons.mpr ⟨trivial, List.forall_mem_cons.mpr ⟨trivial, List.forall_mem_cons.mpr ⟨trivial, List.forall_mem_cons.mpr ⟨trivial, List.forall_mem_cons.mpr ⟨trivial, List.forall_mem_cons.mpr ⟨trivial, List.forall_mem_cons.mpr ⟨trivial, fun _ h => absurd h List.not_mem_nil⟩⟩⟩⟩⟩⟩⟩⟩⟩⟩⟩⟩⟩⟩⟩⟩⟩⟩⟩⟩⟩⟩⟩⟩⟩⟩⟩⟩⟩⟩⟩⟩⟩⟩⟩⟩⟩⟩⟩⟩⟩⟩⟩⟩⟩⟩⟩⟩⟩⟩⟩⟩⟩⟩⟩⟩⟩⟩⟩⟩⟩⟩⟩⟩⟩⟩⟩⟩⟩⟩⟩⟩⟩⟩⟩⟩⟩⟩⟩⟩⟩⟩⟩⟩⟩⟩⟩⟩⟩⟩⟩⟩⟩⟩⟩⟩⟩⟩⟩⟩⟩⟩⟩⟩⟩⟩⟩⟩⟩⟩⟩⟩⟩⟩⟩⟩⟩⟩⟩⟩⟩⟩⟩⟩⟩⟩⟩⟩⟩⟩⟩⟩⟩⟩⟩⟩⟩⟩⟩⟩⟩⟩⟩⟩⟩⟩⟩⟩⟩⟩⟩⟩⟩⟩⟩⟩⟩⟩⟩⟩⟩⟩⟩⟩⟩⟩⟩⟩⟩⟩⟩⟩⟩⟩⟩⟩⟩⟩⟩⟩⟩⟩⟩⟩⟩⟩⟩⟩⟩⟩⟩⟩⟩⟩⟩⟩⟩⟩⟩⟩⟩⟩⟩⟩⟩⟩⟩⟩⟩⟩⟩⟩⟩⟩⟩⟩⟩⟩⟩⟩⟩⟩⟩⟩⟩⟩⟩⟩⟩⟩⟩⟩⟩⟩⟩⟩
theorem ok_X5_block : ev_ok tbs t_X5_block := ⟨rfl, by decide +kernel, fun q hq => ⟨List.all_eq_true.mp kb_X5_block q hq, kw_X5_block q hq⟩⟩
set_option maxRecDepth 100000 in
theorem kb_X5_tag : t_X5_tag.2.all (fun q => ev_okB t_X5_tag.1.2.2.1 q.1 q.2) = true := by decide +kernel
set_option maxRecDepth 100000 in
set_option maxHeartbeats 4000000 in
theorem kw_X5_tag : ∀ q ∈ t_X5_tag.2, ev_okW tbs t_X5_tag.1.1 t_X5_tag.1.2.1.name q.2.2.2.1 q.2.2.2.2.1 q.2.2.2.2.2.1 q.2.2.2.2.2.2 q.2.1 := List.forall_mem_cons.mpr ⟨trivial, List.forall_mem_cons.mpr ⟨trivial, List.forall_mem_cons.mpr ⟨trivial, List.forall_mem_cons.mpr ⟨trivial, List.forall_mem_cons.mpr ⟨trivial, List.forall_mem_cons.mpr ⟨trivial, List.forall_mem_cons.mpr ⟨w_193 _, List.forall_mem_cons.mpr ⟨trivial, List.forall_mem_cons.mpr ⟨trivial, List.forall_mem_cons.mpr ⟨trivial, List.forall_mem_cons.mpr ⟨trivial, List.forall_mem_cons.mpr ⟨trivial, List.forall_mem_cons.mpr ⟨w_197 _, List.forall_mem_cons.mpr ⟨trivial, List.forall_mem_cons.mpr ⟨trivial, List.forall_mem_cons.mpr ⟨trivial, List.forall_mem_cons.mpr ⟨trivial, List.forall_mem_cons.mpr ⟨w_206 _, List.forall_mem_cons.mpr ⟨trivial, List.forall_mem_cons.mpr ⟨trivial, List.forall_mem_cons.mpr ⟨trivial, List.forall_mem_cons.mpr ⟨trivial, List.forall_mem_cons.mpr ⟨trivial, List.forall_mem_cons.mpr ⟨trivial, List.forall_mem_cons.mpr ⟨trivial, List.forall_mem_cons.mpr ⟨trivial, List.forall_mem_cons.mpr ⟨trivial, List.forall_mem_cons.mpr ⟨trivial, List.forall_mem_cons.mpr ⟨w_193 _, List.forall_mem_cons.mpr ⟨trivial, List.forall_mem_cons.mpr ⟨trivial, List.forall_mem_cons.mpr ⟨trivial, List.forall_mem_cons.mpr ⟨trivial, List.forall_mem_cons.mpr ⟨w_207 _, List.forall_mem_cons.mpr ⟨trivial, List.forall_mem_cons.mpr ⟨trivial, List.forall_mem_cons.mpr ⟨trivial, List.forall_mem_cons.mpr ⟨trivial, List.forall_mem_cons.mpr ⟨trivial, List.forall_mem_cons.mpr ⟨trivial, List.forall_mem_cons.mpr ⟨trivial, List.forall_mem_cons.mpr ⟨w_194 _, List.forall_mem_cons.mpr ⟨trivial, List.forall_mem_cons.mpr ⟨trivial, List.forall_mem_cons.mpr ⟨trivial, List.forall_mem_cons.mpr ⟨trivial, List.forall_mem_cons.mpr ⟨trivial, List.forall_mem_cons.mpr ⟨trivial, List.forall_mem_cons.mpr ⟨w_193 _, List.forall_mem_cons.mpr ⟨trivial, List.forall_mem_cons.mpr ⟨trivial, List.forall_mem_cons.mpr ⟨trivial, List.forall_mem_cons.mpr ⟨trivial, List.forall_mem_cons.mpr ⟨w_196 _, List.forall_mem_cons.mpr ⟨trivial, List.forall_mem_cons.mpr ⟨trivial, List.forall_mem_cons.mpr ⟨trivial, List.forall_mem_cons.mpr ⟨trivial, List.forall_mem_cons.mpr ⟨trivial, List.forall_mem_cons.mpr ⟨trivial, List.forall_mem_cons.mpr ⟨trivial, List.forall_mem_cons.mpr ⟨trivial, List.forall_mem_cons.mpr ⟨trivial, List.forall_mem_cons.mpr ⟨trivial, List.forall_mem_cons.mpr ⟨trivial, List.forall_mem_cons.mpr ⟨w_193 _, List.forall_mem_cons.mpr ⟨trivial, List.forall_mem_cons.mpr ⟨trivial, List.forall_mem_cons.mpr ⟨trivial, List.forall_mem_cons.mpr ⟨trivial, List.forall_mem_cons.mpr ⟨trivial, List.forall_mem_cons.mpr ⟨w_197 _, List.forall_mem_cons.mpr ⟨trivial, List.forall_mem_cons.mpr ⟨trivial, List.forall_mem_cons.mpr ⟨trivial, List.forall_mem_cons.mpr ⟨trivial, List.forall_mem_cons.mpr ⟨w_208 _, List.forall_mem_cons.mpr ⟨trivial, List.forall_mem_cons.mpr ⟨trivial, List.forall_mem_cons.mpr ⟨trivial, List.forall_mem_cons.mpr ⟨trivial, List.forall_mem_cons.mpr ⟨trivial, List.forall_mem_cons.mpr ⟨trivial, List.forall_mem_cons.mpr ⟨w_194 _, List.forall_mem_cons.mpr ⟨trivial, fun _ h => absurd h List.not_mem_nil⟩⟩⟩⟩⟩⟩⟩⟩⟩⟩⟩⟩⟩⟩⟩⟩⟩⟩⟩⟩⟩⟩⟩⟩⟩⟩⟩⟩⟩⟩⟩⟩⟩⟩⟩⟩⟩⟩⟩⟩⟩⟩⟩⟩⟩⟩⟩⟩⟩⟩⟩⟩⟩⟩⟩⟩⟩⟩⟩⟩⟩⟩⟩⟩⟩⟩⟩⟩⟩⟩⟩⟩⟩⟩⟩⟩⟩⟩⟩⟩⟩⟩⟩⟩⟩
theorem ok_X5_tag : ev_ok tbs t_X5_tag := ⟨rfl, by decide +kernel, fun q hq => ⟨List.all_eq_true.mp kb_X5_tag q hq, kw_X5_tag q hq⟩⟩
set_option maxRecDepth 100000 in
theorem kb_X5_quarter : t_X5_quarter.2.all (fun q => ev_okB t_X5_quarter.1.2.2.1 q.1 q.2) = true := by decide +kernel
set_option maxRecDepth 100000 in
set_option maxHeartbeats 4000000 in
theorem kw_X5_quarter : ∀ q ∈ t_X5_quarter.2, ev_okW tbs t_X5_quarter.1.1 t_X5_quarter.1.2.1.name q.2.2.2.1 q.2.2.2.2.1 q.2.2.2.2.2.1 q.2.2.2.2.2.2 q.2.1 := List.forall_mem_cons.mpr ⟨trivial, List.forall_mem_cons.mpr ⟨w_209 _, List.forall_mem_cons.mpr ⟨trivial, List.forall_mem_cons.mpr ⟨trivial, List.forall_mem_cons.mpr ⟨trivial, List.forall_mem_cons.mpr ⟨trivial, List.forall_mem_cons.mpr ⟨w_209 _, List.forall_mem_cons.mpr ⟨trivial, List.forall_mem_cons.mpr ⟨trivial, List.forall_mem_cons.mpr ⟨trivial, List.forall_mem_cons.mpr ⟨trivial, List.forall_mem_cons.mpr ⟨trivial, List.forall_mem_cons.mpr ⟨w_209 _, List.forall_mem_cons.mpr ⟨trivial, List.forall_mem_cons.mpr ⟨trivial, List.forall_mem_cons.mpr ⟨w_209 _, List.forall_mem_cons.mpr ⟨trivial, List.forall_mem_cons.mpr ⟨trivial, List.forall_mem_cons.mpr ⟨trivial, List.forall_mem_cons.mpr ⟨w_209 _, List.forall_mem_cons.mpr ⟨trivial, List.forall_mem_cons.mpr ⟨trivial, List.forall_mem_cons.mpr ⟨trivial, List.forall_mem_cons.mpr ⟨trivial, List.forall_mem_cons.mpr ⟨w_203 _, List.forall_mem_cons.mpr ⟨trivial, List.forall_mem_cons.mpr ⟨trivial, List.forall_mem_cons.mpr ⟨w_209 _, List.forall_mem_cons.mpr ⟨trivial, List.forall_mem_cons.mpr ⟨trivial, List.forall_mem_cons.mpr ⟨trivial, List.forall_mem_cons.mpr ⟨trivial, List.forall_mem_cons.mpr ⟨w_209 _, List.forall_mem_cons.mpr ⟨trivial, List.forall_mem_cons.mpr ⟨trivial, List.forall_mem_cons.mpr ⟨trivial, List.forall_mem_cons.mpr ⟨trivial, List.forall_mem_cons.mpr ⟨trivial, List.forall_mem_cons.mpr ⟨w_209 _, List.forall_mem_cons.mpr ⟨trivial, List.forall_mem_cons.mpr ⟨trivial, List.forall_mem_cons.mpr ⟨w_209 _, List.forall_mem_cons.mpr ⟨trivial, List.forall_mem_cons.mpr ⟨trivial, List.forall_mem_cons.mpr ⟨trivial, List.forall_mem_cons.mpr ⟨w_209 _, List.forall_mem_cons.mpr ⟨trivial, List.forall_mem_cons.mpr ⟨trivial, List.forall_mem_cons.mpr ⟨trivial, List.forall_mem_cons.mpr ⟨trivial, List.forall_mem_cons.mpr ⟨w_203 _, List.forall_mem_cons.mpr ⟨trivial, List.forall_mem_cons.mpr ⟨trivial, List.forall_mem_cons.mpr ⟨w_209 _, List.forall_mem_cons.mpr ⟨trivial, List.forall_mem_cons.mpr ⟨trivial, List.forall_mem_cons.mpr ⟨trivial, List.forall_mem_cons.mpr ⟨trivial, List.forall_mem_cons.mpr ⟨w_209 _, List.forall_mem_cons.mpr ⟨trivial, List.forall_mem_cons.mpr ⟨trivial, List.forall_mem_cons.mpr ⟨trivial, List.forall_mem_cons.mpr ⟨trivial, List.forall_mem_cons.mpr ⟨trivial, List.forall_mem_cons.mpr ⟨w_209 _, List.forall_mem_cons.mpr ⟨trivial, List.forall_mem_cons.mpr ⟨trivial, List.forall_mem_cons.mpr ⟨w_209 _, List.forall_mem_cons.mpr ⟨trivial, List.forall_mem_cons.mpr ⟨trivial, List.forall_mem_cons.mpr ⟨trivial, List.forall_mem_cons.mpr ⟨w_209 _, List.forall_mem_cons.mpr ⟨trivial, List.forall_mem_cons.mpr ⟨trivial, List.forall_mem_cons.mpr ⟨trivial, List.forall_mem_cons.mpr ⟨trivial, List.forall_mem_cons.mpr ⟨w_203 _, List.forall_mem_cons.mpr ⟨trivial, List.forall_mem_cons.mpr ⟨trivial, List.forall_mem_cons.mpr ⟨w_209 _, List.forall_mem_cons.mpr ⟨trivial, List.forall_mem_cons.mpr ⟨trivial, List.forall_mem_cons.mpr ⟨trivial, List.forall_mem_cons.mpr ⟨trivial, List.forall_mem_cons.mpr ⟨w_209 _, List.forall_mem_cons.mpr ⟨trivial, List.forall_mem_cons.mpr ⟨trivial, List.forall_mem_cons.mpr ⟨trivial, List.forall_mem_cons.mpr ⟨trivial, List.forall_mem_cons.mpr ⟨trivial, List.forall_mem_cons.mpr ⟨w_209 _, List.forall_mem_cons.mpr ⟨trivial, List.forall_mem_cons.mpr ⟨trivial, List.forall_mem_cons.mpr ⟨w_209 _, List.forall_mem_cons.mpr ⟨trivial, List.forall_mem_cons.mpr ⟨trivial, List.forall_mem_cons.mpr ⟨trivial, List.forall_mem_cons.mpr ⟨w_209 _, List.forall_mem_cons.mpr ⟨trivial, List.forall_mem_cons.mpr ⟨trivial, List.forall_mem_cons.mpr ⟨trivial, List.forall_mem_cons.mpr ⟨trivial, List.forall_mem_cons.mpr ⟨w_203 _, List.forall_mem_cons.mpr ⟨trivial, List.forall_mem_cons.mpr ⟨trivial, fun _ h => absurd h List.not_mem_nil⟩⟩⟩⟩⟩⟩⟩⟩⟩⟩⟩⟩⟩⟩⟩⟩⟩⟩⟩⟩⟩⟩⟩⟩⟩⟩⟩⟩⟩⟩⟩⟩⟩⟩⟩⟩⟩⟩⟩⟩⟩⟩⟩⟩⟩⟩⟩⟩⟩⟩⟩⟩⟩⟩⟩⟩⟩⟩⟩⟩⟩⟩⟩⟩⟩⟩⟩⟩⟩⟩⟩⟩⟩⟩⟩⟩⟩⟩⟩⟩⟩⟩⟩⟩⟩⟩⟩⟩⟩⟩⟩⟩⟩⟩⟩⟩⟩⟩⟩⟩⟩⟩⟩⟩⟩
theorem ok_X5_quarter : ev_ok tbs t_X5_quarter := ⟨rfl, by decide +kernel, fun q hq => ⟨List.all_eq_true.mp kb_X5_quarter q hq, kw_X5_quarter q hq⟩⟩
set_option maxRecDepth 100000 in
theorem kb_X5_stream : t_X5_stream.2.all (fun q => ev_okB t_X5_stream.1.2.2.1 q.1 q.2) = true := by decide +kernel
set_option maxRecDepth 100000 in
set_option maxHeartbeats 4000000 in
theorem kw_X5_stream : ∀ q ∈ t_X5_stream.2, ev_okW tbs t_X5_stream.1.1 t_X5_stream.1.2.1.name q.2.2.2.1 q.2.2.2.2.1 q.2.2.2.2.2.1 q.2.2.2.2.2.2 q.2.1 := List.forall_mem_cons.mpr ⟨trivial, List.forall_mem_cons.mpr ⟨w_210 _, List.forall_mem_cons.mpr ⟨trivial, List.forall_mem_cons.mpr ⟨w_211 _, List.forall_mem_cons.mpr ⟨trivial, List.forall_mem_cons.mpr ⟨trivial, List.forall_mem_cons.mpr ⟨w_210 _, List.forall_mem_cons.mpr ⟨trivial, List.forall_mem_cons.mpr ⟨w_212 _, List.forall_mem_cons.mpr ⟨trivial, List.forall_mem_cons.mpr ⟨trivial, List.forall_mem_cons.mpr ⟨w_210 _, List.forall_mem_cons.mpr ⟨trivial, List.forall_mem_cons.mpr ⟨w_213 _, List.forall_mem_cons.mpr ⟨trivial, List.forall_mem_cons.mpr ⟨trivial, List.forall_mem_cons.mpr ⟨w_210 _, List.forall_mem_cons.mpr ⟨trivial, List.forall_mem_cons.mpr ⟨w_214 _, List.forall_mem_cons.mpr ⟨trivial, List.forall_mem_cons.mpr ⟨trivial, List.forall_mem_cons.mpr ⟨trivial, List.forall_mem_cons.mpr ⟨trivial, List.forall_mem_cons.mpr ⟨trivial, List.forall_mem_cons.mpr ⟨trivial, List.forall_mem_cons.mpr ⟨trivial, List.forall_mem_cons.mpr ⟨w_210 _, List.forall_mem_cons.mpr ⟨trivial, List.forall_mem_cons.mpr ⟨trivial, List.forall_mem_cons.mpr ⟨trivial, List.forall_mem_cons.mpr ⟨trivial, List.forall_mem_cons.mpr ⟨w_195 _, List.forall_mem_cons.mpr ⟨trivial, List.forall_mem_cons.mpr ⟨trivial, List.forall_mem_cons.mpr ⟨trivial, List.forall_mem_cons.mpr ⟨trivial, List.forall_mem_cons.mpr ⟨trivial, List.forall_mem_cons.mpr ⟨trivial, List.forall_mem_cons.mpr ⟨w_210 _, List.forall_mem_cons.mpr ⟨trivial, List.forall_mem_cons.mpr ⟨trivial, List.forall_mem_cons.mpr ⟨trivial, List.forall_mem_cons.mpr ⟨trivial, List.forall_mem_cons.mpr ⟨w_210 _, List.forall_mem_cons.mpr ⟨trivial, List.forall_mem_cons.mpr ⟨trivial, List.forall_mem_cons.mpr ⟨trivial, List.forall_mem_cons.mpr ⟨trivial, List.forall_mem_cons.mpr ⟨w_210 _, List.forall_mem_cons.mpr ⟨trivial, List.forall_mem_cons.mpr ⟨trivial, List.forall_mem_cons.mpr ⟨trivial, List.forall_mem_cons.mpr ⟨trivial, List.forall_mem_cons.mpr ⟨w_210 _, List.forall_mem_cons.mpr ⟨trivial, List.forall_mem_cons.mpr ⟨trivial, List.forall_mem_cons.mpr ⟨trivial, List.forall_mem_cons.mpr ⟨trivial, List.forall_mem_cons.mpr ⟨trivial, List.forall_mem_cons.mpr ⟨trivial, List.forall_mem_cons.mpr ⟨trivial, List.forall_mem_cons.mpr ⟨trivial, List.forall_mem_cons.mpr ⟨trivial, List.forall_mem_cons.mpr ⟨w_209 _, List.forall_mem_cons.mpr ⟨trivial, List.forall_mem_cons.mpr ⟨trivial, List.forall_mem_cons.mpr ⟨w_210 _, List.forall_mem_cons.mpr ⟨trivial, List.forall_mem_cons.mpr ⟨trivial, List.forall_mem_cons.mpr ⟨trivial, List.forall_mem_cons.mpr ⟨trivial, List.forall_mem_cons.mpr ⟨trivial, List.forall_mem_cons.mpr ⟨trivial, List.forall_mem_cons.mpr ⟨trivial, List.forall_mem_cons.mpr ⟨trivial, List.forall_mem_cons.mpr ⟨trivial, List.forall_mem_cons.mpr ⟨trivial, List.forall_mem_cons.mpr ⟨trivial, List.forall_mem_cons.mpr ⟨trivial, List.forall_mem_cons.mpr ⟨trivial, List.forall_mem_cons.mpr ⟨trivial, List.forall_mem_cons.mpr ⟨trivial, List.forall_mem_cons.mpr ⟨trivial, List.forall_mem_cons.mpr ⟨trivial, List.forall_mem_cons.mpr ⟨trivial, List.forall_mem_cons.mpr ⟨trivial, List.forall_mem_cons.mpr ⟨trivial, List.forall_mem_cons.mpr ⟨trivial, List.forall_mem_cons.mpr ⟨trivial, List.forall_mem_cons.mpr ⟨trivial, List.forall_mem_cons.mpr ⟨trivial, List.forall_mem_cons.mpr ⟨trivial, List.forall_mem_cons.mpr ⟨trivial, List.forall_mem_cons.mpr ⟨w_215 _, List.forall_mem_cons.mpr ⟨trivial, List.forall_mem_cons.mpr ⟨trivial, List.forall_mem_cons.mpr ⟨trivial, List.forall_mem_cons.mpr ⟨trivial, List.forall_mem_cons.mpr ⟨trivial, List.forall_mem_cons.mpr ⟨trivial, List.forall_mem_cons.mpr ⟨trivial, List.forall_mem_cons.mpr ⟨trivial, List.forall_mem_cons.mpr ⟨trivial, List.forall_mem_cons.mpr ⟨trivial, List.forall_mem_cons.mpr ⟨trivial, List.forall_mem_cons.mpr ⟨trivial, List.forall_mem_cons.mpr ⟨trivial, List.forall_mem_cons.mpr ⟨trivial, List.forall_mem_cons.mpr ⟨trivial, List.forall_mem_cons.mpr ⟨trivial, List.forall_mem_cons.mpr ⟨trivial, List.forall_mem_cons.mpr ⟨trivial, List.forall_mem_cons.mpr ⟨trivial, List.forall_mem_cons.mpr ⟨trivial, List.forall_mem_cons.mpr ⟨trivial, List.forall_mem_cons.mpr ⟨trivial, List.forall_mem_cons.mpr ⟨trivial, List.forall_mem_cons.mpr ⟨trivial, List.forall_mem_cons.mpr ⟨trivial, List.forall_mem_cons.mpr ⟨trivial, List.forall_mem_cons.mpr ⟨trivial, List.forall_mem_cons.mpr ⟨trivial, List.forall_mem_cons.mpr ⟨trivial, List.forall_mem_cons.mpr ⟨trivial, List.forall_mem_cons.mpr ⟨w_215 _, List.forall_mem_cons.mpr ⟨trivial, List.forall_mem_cons.mpr ⟨trivial, List.forall_mem_cons.mpr ⟨trivial, List.forall_mem_cons.mpr ⟨trivial, List.forall_mem_cons.mpr ⟨trivial, List.forall_mem_cons.mpr ⟨trivial, List.forall_mem_cons.mpr ⟨trivial, List.forall_mem_cons.mpr ⟨trivial, List.forall_mem_cons.mpr ⟨trivial, List.forall_mem_cons.mpr ⟨trivial, List.forall_mem_cons.mpr ⟨w_209 _, List.forall_mem_cons.mpr ⟨trivial, List.forall_mem_cons.mpr ⟨trivial, List.forall_mem_cons.mpr ⟨trivial, List.forall_mem_cons.mpr ⟨trivial, List.forall_mem_cons.mpr ⟨w_210 _, List.forall_mem_cons.mpr ⟨trivial, List.forall_mem_cons.mpr ⟨trivial, List.forall_mem_cons.mpr ⟨trivial, List.forall_mem_cons.mpr ⟨trivial, List.forall_mem_cons.mpr ⟨trivial, List.forall_mem_cons.mpr ⟨trivial, List.forall_mem_cons.mpr ⟨trivial, fun _ h => absurd h List.not_mem_nil⟩⟩⟩⟩⟩⟩⟩⟩⟩⟩⟩⟩⟩⟩⟩⟩⟩⟩⟩⟩⟩⟩⟩⟩⟩⟩⟩⟩⟩⟩⟩⟩⟩⟩⟩⟩⟩⟩⟩⟩⟩⟩⟩⟩⟩⟩⟩⟩⟩⟩⟩⟩⟩⟩⟩⟩⟩⟩⟩⟩⟩⟩⟩⟩⟩⟩⟩⟩⟩⟩⟩⟩⟩⟩⟩⟩⟩⟩⟩⟩⟩⟩⟩⟩⟩⟩⟩⟩⟩⟩⟩⟩⟩⟩⟩⟩⟩⟩⟩⟩⟩⟩⟩⟩⟩⟩⟩⟩⟩⟩⟩⟩⟩⟩⟩⟩⟩⟩⟩⟩⟩⟩⟩⟩⟩⟩⟩⟩⟩⟩⟩⟩⟩⟩⟩⟩⟩⟩⟩⟩⟩⟩⟩⟩⟩⟩⟩⟩
theorem ok_X5_stream : ev_ok tbs t_X5_stream := ⟨rfl, by decide +kernel, fun q hq => ⟨List.all_eq_true.mp kb_X5_stream q hq, kw_X5_stream q hq⟩⟩
set_option maxRecDepth 100000 in
theorem kb_X5_seal : t_X5_seal.2.all (fun q => ev_okB t_X5_seal.1.2.2.1 q.1 q.2) = true := by decide +kernel
set_option maxRecDepth 100000 in
set_option maxHeartbeats 4000000 in
theorem kw_X5_seal : ∀ q ∈ t_X5_seal.2, ev_okW tbs t_X5_seal.1.1 t_X5_seal.1.2.1.name q.2.2.2.1 q.2.2.2.2.1 q.2.2.2.2.2.1 q.2.2.2.2.2.2 q.2.1 := List.forall_mem_cons.mpr ⟨trivial, List.forall_mem_cons.mpr ⟨trivial, List.forall_mem_cons.mpr ⟨trivial, List.forall_mem_cons.mpr ⟨trivial, List.forall_mem_cons.mpr ⟨trivial, List.forall_mem_cons.mpr ⟨trivial, List.forall_mem_cons.mpr ⟨trivial, List.forall_mem_cons.mpr ⟨trivial, List.forall_mem_cons.mpr ⟨trivial, List.forall_mem_cons.mpr ⟨trivial, List.forall_mem_cons.mpr ⟨w_207 _, List.forall_mem_cons.mpr ⟨trivial, List.forall_mem_cons.mpr ⟨trivial, List.forall_mem_cons.mpr ⟨trivial, List.forall_mem_cons.mpr ⟨w_207 _, List.forall_mem_cons.mpr ⟨trivial, List.forall_mem_cons.mpr ⟨trivial, List.forall_mem_cons.mpr ⟨w_216 _, List.forall_mem_cons.mpr ⟨trivial, List.forall_mem_cons.mpr ⟨trivial, List.forall_mem_cons.mpr ⟨trivial, List.forall_mem_cons.mpr ⟨trivial, List.forall_mem_cons.mpr ⟨trivial, List.forall_mem_cons.mpr ⟨trivial, List.forall_mem_cons.mpr ⟨trivial, List.forall_mem_cons.mpr ⟨trivial, List.forall_mem_cons.mpr ⟨trivial, List.forall_mem_cons.mpr ⟨trivial, List.forall_mem_cons.mpr ⟨trivial, List.forall_mem_cons.mpr ⟨trivial, List.forall_mem_cons.mpr ⟨trivial, List.forall_mem_cons.mpr ⟨trivial, List.forall_mem_cons.mpr ⟨trivial, List.forall_mem_cons.mpr ⟨trivial, List.forall_mem_cons.mpr ⟨trivial, List.forall_mem_cons.mpr ⟨trivial, List.forall_mem_cons.mpr ⟨trivial, List.forall_mem_cons.mpr ⟨trivial, List.forall_mem_cons.mpr ⟨trivial, List.forall_mem_cons.mpr ⟨trivial, List.forall_mem_cons.mpr ⟨trivial, List.forall_mem_cons.mpr ⟨w_209 _, List.forall_mem_cons.mpr ⟨trivial, List.forall_mem_cons.mpr ⟨trivial, List.forall_mem_cons.mpr ⟨trivial, List.forall_mem_cons.mpr ⟨trivial, List.forall_mem_cons.mpr ⟨trivial, List.forall_mem_cons.mpr ⟨trivial, List.forall_mem_cons.mpr ⟨trivial, List.forall_mem_cons.mpr ⟨trivial, List.forall_mem_cons.mpr ⟨trivial, fun _ h => absurd h List.not_mem_nil⟩⟩⟩⟩⟩⟩⟩⟩⟩⟩⟩⟩⟩⟩⟩⟩⟩⟩⟩⟩⟩⟩⟩⟩⟩⟩⟩⟩⟩⟩⟩⟩⟩⟩⟩⟩⟩⟩⟩⟩⟩⟩⟩⟩⟩⟩⟩⟩⟩⟩⟩
theorem ok_X5_seal : ev_ok tbs t_X5_seal := ⟨rfl, by decide +kernel, fun q hq => ⟨List.all_eq_true.mp kb_X5_seal q hq, kw_X5_seal q hq⟩⟩
set_option maxRecDepth 100000 in
theorem kb_X5_isOf : t_X5_isOf.2.all (fun q => ev_okB t_X5_isOf.1.2.2.1 q.1 q.2) = true := by decide +kernel
set_option maxRecDepth 100000 in
set_option maxHeartbeats 4000000 in
theorem kw_X5_isOf : ∀ q ∈ t_X5_isOf.2, ev_okW tbs t_X5_isOf.1.1 t_X5_isOf.1.2.1.name q.2.2.2.1 q.2.2.2.2.1 q.2.2.2.2.2.1 q.2.2.2.2.2.2 q.2.1 := List.forall_mem_cons.mpr ⟨trivial, List.forall_mem_cons.mpr ⟨trivial, List.forall_mem_cons.mpr ⟨trivial, List.forall_mem_cons.mpr ⟨trivial, List.forall_mem_cons.mpr ⟨w_217 _, List.forall_mem_cons.mpr ⟨trivial, List.forall_mem_cons.mpr ⟨trivial, List.forall_mem_cons.mpr ⟨w_218 _, List.forall_mem_cons.mpr ⟨trivial, List.forall_mem_cons.mpr ⟨trivial, List.forall_mem_cons.mpr ⟨trivial, List.forall_mem_cons.mpr ⟨trivial, List.forall_mem_cons.mpr ⟨trivial, List.forall_mem_cons.mpr ⟨trivial, List.forall_mem_cons.mpr ⟨trivial, List.forall_mem_cons.mpr ⟨trivial, fun _ h => absurd h List.not_mem_nil⟩⟩⟩⟩⟩⟩⟩⟩⟩⟩⟩⟩⟩⟩⟩⟩
theorem ok_X5_isOf : ev_ok tbs t_X5_isOf := ⟨rfl, by decide +kernel, fun q hq => ⟨List.all_eq_true.mp kb_X5_isOf q hq, kw_X5_isOf q hq⟩⟩
set_option maxRecDepth 100000 in
theorem kb_X5_owned : t_X5_owned.2.all (fun q => ev_okB t_X5_owned.1.2.2.1 q.1 q.2) = true := by decide +kernel
set_option maxRecDepth 100000 in
set_option maxHeartbeats 4000000 in
theorem kw_X5_owned : ∀ q ∈ t_X5_owned.2, ev_okW tbs t_X5_owned.1.1 t_X5_owned.1.2.1.name q.2.2.2.1 q.2.2.2.2.1 q.2.2.2.2.2.1 q.2.2.2.2.2.2 q.2.1 := List.forall_mem_cons.mpr ⟨trivial, List.forall_mem_cons.mpr ⟨trivial, List.forall_mem_cons.mpr ⟨trivial, List.forall_mem_cons.mpr ⟨trivial, List.forall_mem_cons.mpr ⟨trivial, List.forall_mem_cons.mpr ⟨trivial, List.forall_mem_cons.mpr ⟨w_217 _, List.forall_mem_cons.mpr ⟨trivial, List.forall_mem_cons.mpr ⟨trivial, List.forall_mem_cons.mpr ⟨trivial, List.forall_mem_cons.mpr ⟨w_192 _, List.forall_mem_cons.mpr ⟨trivial, List.forall_mem_cons.mpr ⟨trivial, List.forall_mem_cons.mpr ⟨trivial, List.forall_mem_cons.mpr ⟨trivial, List.forall_mem_cons.mpr ⟨trivial, List.forall_mem_cons.mpr ⟨trivial, List.forall_mem_cons.mpr ⟨trivial, List.forall_mem_cons.mpr ⟨trivial, List.forall_mem_cons.mpr ⟨trivial, List.forall_mem_cons.mpr ⟨trivial, List.forall_mem_cons.mpr ⟨trivial, List.forall_mem_cons.mpr ⟨trivial, List.forall_mem_cons.mpr ⟨trivial, fun _ h => absurd h List.not_mem_nil⟩⟩⟩⟩⟩⟩⟩⟩⟩⟩⟩⟩⟩⟩⟩⟩⟩⟩⟩⟩⟩⟩⟩⟩
theorem ok_X5_owned : ev_ok tbs t_X5_owned := ⟨rfl, by decide +kernel, fun q hq => ⟨List.all_eq_true.mp kb_X5_owned q hq, kw_X5_owned q hq⟩⟩
set_option maxRecDepth 100000 in
theorem kb_X5_becomes : t_X5_becomes.2.all (fun q => ev_okB t_X5_becomes.1.2.2.1 q.1 q.2) = true := by decide +kernel
set_option maxRecDepth 100000 in
set_option maxHeartbeats 4000000 in
theorem kw_X5_becomes : ∀ q ∈ t_X5_becomes.2, ev_okW tbs t_X5_becomes.1.1 t_X5_becomes.1.2.1.name q.2.2.2.1 q.2.2.2.2.1 q.2.2.2.2.2.1 q.2.2.2.2.2.2 q.2.1 := List.forall_mem_cons.mpr ⟨trivial, List.forall_mem_cons.mpr ⟨w_218 _, List.forall_mem_cons.mpr ⟨trivial, List.forall_mem_cons.mpr ⟨trivial, List.forall_mem_cons.mpr ⟨trivial, List.forall_mem_cons.mpr ⟨trivial, List.forall_mem_cons.mpr ⟨w_192 _, List.forall_mem_cons.mpr ⟨trivial, List.forall_mem_cons.mpr ⟨trivial, List.forall_mem_cons.mpr ⟨trivial, List.forall_mem_cons.mpr ⟨trivial, List.forall_mem_cons.mpr ⟨w_219 _, List.forall_mem_cons.mpr ⟨trivial, List.forall_mem_cons.mpr ⟨trivial, List.forall_mem_cons.mpr ⟨trivial, List.forall_mem_cons.mpr ⟨trivial, List.forall_mem_cons.mpr ⟨w_220 _, List.forall_mem_cons.mpr ⟨trivial, List.forall_mem_cons.mpr ⟨trivial, List.forall_mem_cons.mpr ⟨trivial, List.forall_mem_cons.mpr ⟨trivial, List.forall_mem_cons.mpr ⟨w_221 _, List.forall_mem_cons.mpr ⟨trivial, List.forall_mem_cons.mpr ⟨trivial, List.forall_mem_cons.mpr ⟨trivial, List.forall_mem_cons.mpr ⟨trivial, List.forall_mem_cons.mpr ⟨w_222 _, List.forall_mem_cons.mpr ⟨trivial, List.forall_mem_cons.mpr ⟨trivial, List.forall_mem_cons.mpr ⟨trivial, List.forall_mem_cons.mpr ⟨trivial, List.forall_mem_cons.mpr ⟨trivial, List.forall_mem_cons.mpr ⟨trivial, List.forall_mem_cons.mpr ⟨trivial, List.forall_mem_cons.mpr ⟨trivial, List.forall_mem_cons.mpr ⟨trivial, List.forall_mem_cons.mpr ⟨w_223 _, List.forall_mem_cons.mpr ⟨trivial, List.forall_mem_cons.mpr ⟨trivial, List.forall_mem_cons.mpr ⟨trivial, List.forall_mem_cons.mpr ⟨trivial, List.forall_mem_cons.mpr ⟨trivial, List.forall_mem_cons.mpr ⟨trivial, List.forall_mem_cons.mpr ⟨trivial, List.forall_mem_cons.mpr ⟨trivial, List.forall_mem_cons.mpr ⟨trivial, List.forall_mem_cons.mpr ⟨trivial, List.forall_mem_cons.mpr ⟨trivial, List.forall_mem_cons.mpr ⟨trivial, List.forall_mem_cons.mpr ⟨trivial, List.forall_mem_cons.mpr ⟨trivial, List.forall_mem_cons.mpr ⟨trivial, List.forall_mem_cons.mpr ⟨w_224 _, List.forall_mem_cons.mpr ⟨trivial, List.forall_mem_cons.mpr ⟨trivial, List.forall_mem_cons.mpr ⟨trivial, List.forall_mem_cons.mpr ⟨trivial, List.forall_mem_cons.mpr ⟨trivial, List.forall_mem_cons.mpr ⟨trivial, List.forall_mem_cons.mpr ⟨trivial, List.forall_mem_cons.mpr ⟨trivial, List.forall_mem_cons.mpr ⟨trivial, List.forall_mem_cons.mpr ⟨trivial, fun _ h => absurd h List.not_mem_nil⟩⟩⟩⟩⟩⟩⟩⟩⟩⟩⟩⟩⟩⟩⟩⟩⟩⟩⟩⟩⟩⟩⟩⟩⟩⟩⟩⟩⟩⟩⟩⟩⟩⟩⟩⟩⟩⟩⟩⟩⟩⟩⟩⟩⟩⟩⟩⟩⟩⟩⟩⟩⟩⟩⟩⟩⟩⟩⟩⟩⟩⟩⟩
theorem ok_X5_becomes : ev_ok tbs t_X5_becomes := ⟨rfl, by decide +kernel, fun q hq => ⟨List.all_eq_true.mp kb_X5_becomes q hq, kw_X5_becomes q hq⟩⟩
set_option maxRecDepth 100000 in
theorem kb_X5_poke : t_X5_poke.2.all (fun q => ev_okB t_X5_poke.1.2.2.1 q.1 q.2) = true := by decide +kernel
set_option maxRecDepth 100000 in
set_option maxHeartbeats 4000000 in
theorem kw_X5_poke : ∀ q ∈ t_X5_poke.2, ev_okW tbs t_X5_poke.1.1 t_X5_poke.1.2.1.name q.2.2.2.1 q.2.2.2.2.1 q.2.2.2.2.2.1 q.2.2.2.2.2.2 q.2.1 := List.forall_mem_cons.mpr ⟨trivial, List.forall_mem_cons.mpr ⟨trivial, List.forall_mem_cons.mpr ⟨trivial, List.forall_mem_cons.mpr ⟨trivial, List.forall_mem_cons.mpr ⟨trivial, List.forall_mem_cons.mpr ⟨trivial, List.forall_mem_cons.mpr ⟨trivial, List.forall_mem_cons.mpr ⟨trivial, List.forall_mem_cons.mpr ⟨trivial, List.forall_mem_cons.mpr ⟨w_225 _, List.forall_mem_cons.mpr ⟨trivial, List.forall_mem_cons.mpr ⟨w_198 _, List.forall_mem_cons.mpr ⟨trivial, List.forall_mem_cons.mpr ⟨trivial, List.forall_mem_cons.mpr ⟨w_207 _, List.forall_mem_cons.mpr ⟨trivial, List.forall_mem_cons.mpr ⟨trivial, List.forall_mem_cons.mpr ⟨trivial, List.forall_mem_cons.mpr ⟨trivial, fun _ h => absurd h List.not_mem_nil⟩⟩⟩⟩⟩⟩⟩⟩⟩⟩⟩⟩⟩⟩⟩⟩⟩⟩⟩
theorem ok_X5_poke : ev_ok tbs t_X5_poke := ⟨rfl, by decide +kernel, fun q hq => ⟨List.all_eq_true.mp kb_X5_poke q hq, kw_X5_poke q hq⟩⟩
set_option maxRecDepth 100000 in
theorem kb_X5_buffer : t_X5_buffer.2.all (fun q => ev_okB t_X5_buffer.1.2.2.1 q.1 q.2) = true := by decide +kernel
set_option maxRecDepth 100000 in
set_option maxHeartbeats 4000000 in
theorem kw_X5_buffer : ∀ q ∈ t_X5_buffer.2, ev_okW tbs t_X5_buffer.1.1 t_X5_buffer.1.2.1.name q.2.2.2.1 q.2.2.2.2.1 q.2.2.2.2.2.1 q.2.2.2.2.2.2 q.2.1 := List.forall_mem_cons.mpr ⟨trivial, List.forall_mem_cons.mpr ⟨trivial, List.forall_mem_cons.mpr ⟨trivial, List.forall_mem_cons.mpr ⟨trivial, List.forall_mem_cons.mpr ⟨trivial, List.forall_mem_cons.mpr ⟨trivial, List.forall_mem_cons.mpr ⟨trivial, List.forall_mem_cons.mpr ⟨trivial, List.forall_mem_cons.mpr ⟨trivial, List.forall_mem_cons.mpr ⟨w_225 _, List.forall_mem_cons.mpr ⟨trivial, List.forall_mem_cons.mpr ⟨w_198 _, List.forall_mem_cons.mpr ⟨trivial, List.forall_mem_cons.mpr ⟨trivial, List.forall_mem_cons.mpr ⟨trivial, List.forall_mem_cons.mpr ⟨trivial, List.forall_mem_cons.mpr ⟨w_207 _, List.forall_mem_cons.mpr ⟨trivial, List.forall_mem_cons.mpr ⟨trivial, List.forall_mem_cons.mpr ⟨trivial, fun _ h => absurd h List.not_mem_nil⟩⟩⟩⟩⟩⟩⟩⟩⟩⟩⟩⟩⟩⟩⟩⟩⟩⟩⟩⟩
theorem ok_X5_buffer : ev_ok tbs t_X5_buffer := ⟨rfl, by decide +kernel, fun q hq => ⟨List.all_eq_true.mp kb_X5_buffer q hq, kw_X5_buffer q hq⟩⟩
set_option maxRecDepth 100000 in
theorem kb_X5_create : t_X5_create.2.all (fun q => ev_okB t_X5_create.1.2.2.1 q.1 q.2) = true := by decide +kernel
set_option maxRecDepth 100000 in
set_option maxHeartbeats 4000000 in
theorem kw_X5_create : ∀ q ∈ t_X5_create.2, ev_okW tbs t_X5_create.1.1 t_X5_create.1.2.1.name q.2.2.2.1 q.2.2.2.2.1 q.2.2.2.2.2.1 q.2.2.2.2.2.2 q.2.1 := List.forall_mem_cons.mpr ⟨trivial, List.forall_mem_cons.mpr ⟨trivial, List.forall_mem_cons.mpr ⟨w_225 _, List.forall_mem_cons.mpr ⟨trivial, List.forall_mem_cons.mpr ⟨trivial, List.forall_mem_cons.mpr ⟨trivial, List.forall_mem_cons.mpr ⟨w_226 _, List.forall_mem_cons.mpr ⟨trivial, List.forall_mem_cons.mpr ⟨trivial, List.forall_mem_cons.mpr ⟨trivial, List.forall_mem_cons.mpr ⟨trivial, List.forall_mem_cons.mpr ⟨trivial, List.forall_mem_cons.mpr ⟨trivial, List.forall_mem_cons.mpr ⟨w_227 _, List.forall_mem_cons.mpr ⟨trivial, List.forall_mem_cons.mpr ⟨trivial, List.forall_mem_cons.mpr ⟨w_228 _, List.forall_mem_cons.mpr ⟨trivial, List.forall_mem_cons.mpr ⟨trivial, List.forall_mem_cons.mpr ⟨w_229 _, List.forall_mem_cons.mpr ⟨trivial, List.forall_mem_cons.mpr ⟨w_221 _, List.forall_mem_cons.mpr ⟨trivial, List.forall_mem_cons.mpr ⟨trivial, List.forall_mem_cons.mpr ⟨w_228 _, List.forall_mem_cons.mpr ⟨trivial, List.forall_mem_cons.mpr ⟨trivial, List.forall_mem_cons.mpr ⟨trivial, fun _ h => absurd h List.not_mem_nil⟩⟩⟩⟩⟩⟩⟩⟩⟩⟩⟩⟩⟩⟩⟩⟩⟩⟩⟩⟩⟩⟩⟩⟩⟩⟩⟩⟩
theorem ok_X5_create : ev_ok tbs t_X5_create := ⟨rfl, by decide +kernel, fun q hq => ⟨List.all_eq_true.mp kb_X5_create q hq, kw_X5_create q hq⟩⟩
set_option maxRecDepth 100000 in
theorem kb_X5_measured : t_X5_measured.2.all (fun q => ev_okB t_X5_measured.1.2.2.1 q.1 q.2) = true := by decide +kernel
set_option maxRecDepth 100000 in
set_option maxHeartbeats 4000000 in
theorem kw_X5_measured : ∀ q ∈ t_X5_measured.2, ev_okW tbs t_X5_measured.1.1 t_X5_measured.1.2.1.name q.2.2.2.1 q.2.2.2.2.1 q.2.2.2.2.2.1 q.2.2.2.2.2.2 q.2.1 := List.forall_mem_cons.mpr ⟨trivial, List.forall_mem_cons.mpr ⟨trivial, List.forall_mem_cons.mpr ⟨trivial, List.forall_mem_cons.mpr ⟨trivial, List.forall_mem_cons.mpr ⟨trivial, List.forall_mem_cons.mpr ⟨trivial, List.forall_mem_cons.mpr ⟨w_193 _, List.forall_mem_cons.mpr ⟨trivial, List.forall_mem_cons.mpr ⟨trivial, List.forall_mem_cons.mpr ⟨w_224 _, List.forall_mem_cons.mpr ⟨trivial, List.forall_mem_cons.mpr ⟨trivial, List.forall_mem_cons.mpr ⟨trivial, List.forall_mem_cons.mpr ⟨trivial, List.forall_mem_cons.mpr ⟨trivial, List.forall_mem_cons.mpr ⟨trivial, List.forall_mem_cons.mpr ⟨trivial, List.forall_mem_cons.mpr ⟨trivial, List.forall_mem_cons.mpr ⟨trivial, List.forall_mem_cons.mpr ⟨trivial, List.forall_mem_cons.mpr ⟨w_193 _, List.forall_mem_cons.mpr ⟨trivial, List.forall_mem_cons.mpr ⟨trivial, List.forall_mem_cons.mpr ⟨w_218 _, List.forall_mem_cons.mpr ⟨trivial, List.forall_mem_cons.mpr ⟨trivial, List.forall_mem_cons.mpr ⟨trivial, List.forall_mem_cons.mpr ⟨trivial, List.forall_mem_cons.mpr ⟨w_193 _, List.forall_mem_cons.mpr ⟨trivial, List.forall_mem_cons.mpr ⟨trivial, List.forall_mem_cons.mpr ⟨trivial, List.forall_mem_cons.mpr ⟨trivial, List.forall_mem_cons.mpr ⟨w_193 _, List.forall_mem_cons.mpr ⟨trivial, List.forall_mem_cons.mpr ⟨trivial, List.forall_mem_cons.mpr ⟨w_220 _, List.forall_mem_cons.mpr ⟨trivial, List.forall_mem_cons.mpr ⟨trivial, List.forall_mem_cons.mpr ⟨trivial, List.forall_mem_cons.mpr ⟨trivial, List.forall_mem_cons.mpr ⟨w_193 _, List.forall_mem_cons.mpr ⟨trivial, List.forall_mem_cons.mpr ⟨trivial, List.forall_mem_cons.mpr ⟨trivial, List.forall_mem_cons.mpr ⟨trivial, List.forall_mem_cons.mpr ⟨trivial, List.forall_mem_cons.mpr ⟨trivial, List.forall_mem_cons.mpr ⟨trivial, List.forall_mem_cons.mpr ⟨trivial, List.forall_mem_cons.mpr ⟨trivial, List.forall_mem_cons.mpr ⟨w_193 _, List.forall_mem_cons.mpr ⟨trivial, List.forall_mem_cons.mpr ⟨trivial, List.forall_mem_cons.mpr ⟨trivial, List.forall_mem_cons.mpr ⟨trivial, List.forall_mem_cons.mpr ⟨w_223 _, List.forall_mem_cons.mpr ⟨trivial, List.forall_mem_cons.mpr ⟨trivial, List.forall_mem_cons.mpr ⟨trivial, List.forall_mem_cons.mpr ⟨trivial, List.forall_mem_cons.mpr ⟨trivial, List.forall_mem_cons.mpr ⟨trivial, List.forall_mem_cons.mpr ⟨trivial, List.forall_mem_cons.mpr ⟨trivial, List.forall_mem_cons.mpr ⟨trivial, List.forall_mem_cons.mpr ⟨trivial, List.forall_mem_cons.mpr ⟨trivial, List.forall_mem_cons.mpr ⟨w_194 _, List.forall_mem_cons.mpr ⟨trivial, List.forall_mem_cons.mpr ⟨trivial, List.forall_mem_cons.mpr ⟨trivial, List.forall_mem_cons.mpr ⟨trivial, List.forall_mem_cons.mpr ⟨trivial, List.forall_mem_cons.mpr ⟨trivial, List.forall_mem_cons.mpr ⟨w_224 _, List.forall_mem_cons.mpr ⟨trivial, List.forall_mem_cons.mpr ⟨trivial, List.forall_mem_cons.mpr ⟨trivial, List.forall_mem_cons.mpr ⟨trivial, List.forall_mem_cons.mpr ⟨trivial, List.forall_mem_cons.mpr ⟨trivial, List.forall_mem_cons.mpr ⟨w_196 _, List.forall_mem_cons.mpr ⟨trivial, List.forall_mem_cons.mpr ⟨trivial, List.forall_mem_cons.mpr ⟨trivial, List.forall_mem_cons.mpr ⟨trivial, List.forall_mem_cons.mpr ⟨trivial, List.forall_mem_cons.mpr ⟨trivial, fun _ h => absurd h List.not_mem_nil⟩⟩⟩⟩⟩⟩⟩⟩⟩⟩⟩⟩⟩⟩⟩⟩⟩⟩⟩⟩⟩⟩⟩⟩⟩⟩⟩⟩⟩⟩⟩⟩⟩⟩⟩⟩⟩⟩⟩⟩⟩⟩⟩⟩⟩⟩⟩⟩⟩⟩⟩⟩⟩⟩⟩⟩⟩⟩⟩⟩⟩⟩⟩⟩⟩⟩⟩⟩⟩⟩⟩⟩⟩⟩⟩⟩⟩⟩⟩⟩⟩⟩⟩⟩⟩⟩⟩⟩⟩
theorem ok_X5_measured : ev_ok tbs t_X5_measured := ⟨rfl, by decide +kernel, fun q hq => ⟨List.all_eq_true.mp kb_X5_measured q hq, kw_X5_measured q hq⟩⟩
set_option maxRecDepth 100000 in
theorem kb_X5_thread : t_X5_thread.2.all (fun q => ev_okB t_X5_thread.1.2.2.1 q.1 q.2) = true := by decide +kernel
set_option maxRecDepth 100000 in
set_option maxHeartbeats 4000000 in
theorem kw_X5_thread : ∀ q ∈ t_X5_thread.2, ev_okW tbs t_X5_thread.1.1 t_X5_thread.1.2.1.name q.2.2.2.1 q.2.2.2.2.1 q.2.2.2.2.2.1 q.2.2.2.2.2.2 q.2.1 := List.forall_mem_cons.mpr ⟨trivial, List.forall_mem_cons.mpr ⟨trivial, List.forall_mem_cons.mpr ⟨w_225 _, List.forall_mem_cons.mpr ⟨trivial, List.forall_mem_cons.mpr ⟨trivial, List.forall_mem_cons.mpr ⟨trivial, List.forall_mem_cons.mpr ⟨w_226 _, List.forall_mem_cons.mpr ⟨trivial, List.forall_mem_cons.mpr ⟨trivial, List.forall_mem_cons.mpr ⟨trivial, List.forall_mem_cons.mpr ⟨trivial, List.forall_mem_cons.mpr ⟨w_226 _, List.forall_mem_cons.mpr ⟨trivial, List.forall_mem_cons.mpr ⟨trivial, List.forall_mem_cons.mpr ⟨trivial, List.forall_mem_cons.mpr ⟨trivial, List.forall_mem_cons.mpr ⟨w_222 _, List.forall_mem_cons.mpr ⟨trivial, List.forall_mem_cons.mpr ⟨trivial, List.forall_mem_cons.mpr ⟨trivial, List.forall_mem_cons.mpr ⟨trivial, List.forall_mem_cons.mpr ⟨trivial, List.forall_mem_cons.mpr ⟨trivial, List.forall_mem_cons.mpr ⟨trivial, List.forall_mem_cons.mpr ⟨trivial, List.forall_mem_cons.mpr ⟨trivial, List.forall_mem_cons.mpr ⟨trivial, List.forall_mem_cons.mpr ⟨trivial, List.forall_mem_cons.mpr ⟨trivial, List.forall_mem_cons.mpr ⟨trivial, List.forall_mem_cons.mpr ⟨trivial, List.forall_mem_cons.mpr ⟨trivial, List.forall_mem_cons.mpr ⟨w_227 _, List.forall_mem_cons.mpr ⟨trivial, List.forall_mem_cons.mpr ⟨w_192 _, List.forall_mem_cons.mpr ⟨trivial, List.forall_mem_cons.mpr ⟨trivial, List.forall_mem_cons.mpr ⟨trivial, List.forall_mem_cons.mpr ⟨trivial, List.forall_mem_cons.mpr ⟨w_223 _, List.forall_mem_cons.mpr ⟨trivial, List.forall_mem_cons.mpr ⟨trivial, List.forall_mem_cons.mpr ⟨trivial, List.forall_mem_cons.mpr ⟨trivial, List.forall_mem_cons.mpr ⟨trivial, List.forall_mem_cons.mpr ⟨trivial, List.forall_mem_cons.mpr ⟨trivial, List.forall_mem_cons.mpr ⟨trivial, List.forall_mem_cons.mpr ⟨trivial, List.forall_mem_cons.mpr ⟨w_230 _, List.forall_mem_cons.mpr ⟨trivial, List.forall_mem_cons.mpr ⟨trivial, fun _ h => absurd h List.not_mem_nil⟩⟩⟩⟩⟩⟩⟩⟩⟩⟩⟩⟩⟩⟩⟩⟩⟩⟩⟩⟩⟩⟩⟩⟩⟩⟩⟩⟩⟩⟩⟩⟩⟩⟩⟩⟩⟩⟩⟩⟩⟩⟩⟩⟩⟩⟩⟩⟩⟩⟩⟩⟩
theorem ok_X5_thread : ev_ok tbs t_X5_thread := ⟨rfl, by decide +kernel, fun q hq => ⟨List.all_eq_true.mp kb_X5_thread q hq, kw_X5_thread q hq⟩⟩
set_option maxRecDepth 100000 in
theorem kb_X5_at : t_X5_at.2.all (fun q => ev_okB t_X5_at.1.2.2.1 q.1 q.2) = true := by decide +kernel
set_option maxRecDepth 100000 in
set_option maxHeartbeats 4000000 in
theorem kw_X5_at : ∀ q ∈ t_X5_at.2, ev_okW tbs t_X5_at.1.1 t_X5_at.1.2.1.name q.2.2.2.1 q.2.2.2.2.1 q.2.2.2.2.2.1 q.2.2.2.2.2.2 q.2.1 := List.forall_mem_cons.mpr ⟨trivial, List.forall_mem_cons.mpr ⟨trivial, List.forall_mem_cons.mpr ⟨trivial, List.forall_mem_cons.mpr ⟨trivial, List.forall_mem_cons.mpr ⟨w_217 _, List.forall_mem_cons.mpr ⟨trivial, List.forall_mem_cons.mpr ⟨trivial, List.forall_mem_cons.mpr ⟨w_218 _, List.forall_mem_cons.mpr ⟨trivial, List.forall_mem_cons.mpr ⟨trivial, List.forall_mem_cons.mpr ⟨trivial, List.forall_mem_cons.mpr ⟨trivial, List.forall_mem_cons.mpr ⟨trivial, List.forall_mem_cons.mpr ⟨w_192 _, List.forall_mem_cons.mpr ⟨trivial, List.forall_mem_cons.mpr ⟨trivial, List.forall_mem_cons.mpr ⟨trivial, List.forall_mem_cons.mpr ⟨trivial, List.forall_mem_cons.mpr ⟨trivial, List.forall_mem_cons.mpr ⟨w_219 _, List.forall_mem_cons.mpr ⟨trivial, List.forall_mem_cons.mpr ⟨trivial, List.forall_mem_cons.mpr ⟨trivial, List.forall_mem_cons.mpr ⟨trivial, List.forall_mem_cons.mpr ⟨trivial, List.forall_mem_cons.mpr ⟨trivial, List.forall_mem_cons.mpr ⟨trivial, List.forall_mem_cons.mpr ⟨trivial, List.forall_mem_cons.mpr ⟨trivial, List.forall_mem_cons.mpr ⟨trivial, fun _ h => absurd h List.not_mem_nil⟩⟩⟩⟩⟩⟩⟩⟩⟩⟩⟩⟩⟩⟩⟩⟩⟩⟩⟩⟩⟩⟩⟩⟩⟩⟩⟩⟩⟩⟩
theorem ok_X5_at : ev_ok tbs t_X5_at := ⟨rfl, by decide +kernel, fun q hq => ⟨List.all_eq_true.mp kb_X5_at q hq, kw_X5_at q hq⟩⟩
set_option maxRecDepth 100000 in
theorem kb_X5_data : t_X5_data.2.all (fun q => ev_okB t_X5_data.1.2.2.1 q.1 q.2) = true := by decide +kernel
set_option maxRecDepth 100000 in
set_option maxHeartbeats 4000000 in
theorem kw_X5_data : ∀ q ∈ t_X5_data.2, ev_okW tbs t_X5_data.1.1 t_X5_data.1.2.1.name q.2.2.2.1 q.2.2.2.2.1 q.2.2.2.2.2.1 q.2.2.2.2.2.2 q.2.1 := List.forall_mem_cons.mpr ⟨trivial, List.forall_mem_cons.mpr ⟨trivial, List.forall_mem_cons.mpr ⟨w_225 _, List.forall_mem_cons.mpr ⟨trivial, List.forall_mem_cons.mpr ⟨trivial, List.forall_mem_cons.mpr ⟨trivial, List.forall_mem_cons.mpr ⟨w_226 _, List.forall_mem_cons.mpr ⟨trivial, List.forall_mem_cons.mpr ⟨trivial, List.forall_mem_cons.mpr ⟨trivial, List.forall_mem_cons.mpr ⟨trivial, List.forall_mem_cons.mpr ⟨w_226 _, List.forall_mem_cons.mpr ⟨trivial, List.forall_mem_cons.mpr ⟨trivial, List.forall_mem_cons.mpr ⟨trivial, List.forall_mem_cons.mpr ⟨trivial, List.forall_mem_cons.mpr ⟨w_222 _, List.forall_mem_cons.mpr ⟨trivial, List.forall_mem_cons.mpr ⟨trivial, List.forall_mem_cons.mpr ⟨trivial, List.forall_mem_cons.mpr ⟨trivial, List.forall_mem_cons.mpr ⟨trivial, List.forall_mem_cons.mpr ⟨trivial, List.forall_mem_cons.mpr ⟨trivial, List.forall_mem_cons.mpr ⟨trivial, List.forall_mem_cons.mpr ⟨trivial, List.forall_mem_cons.mpr ⟨trivial, List.forall_mem_cons.mpr ⟨trivial, List.forall_mem_cons.mpr ⟨trivial, List.forall_mem_cons.mpr ⟨trivial, List.forall_mem_cons.mpr ⟨trivial, List.forall_mem_cons.mpr ⟨trivial, List.forall_mem_cons.mpr ⟨trivial, List.forall_mem_cons.mpr ⟨trivial, List.forall_mem_cons.mpr ⟨trivial, List.forall_mem_cons.mpr ⟨w_231 _, List.forall_mem_cons.mpr ⟨trivial, List.forall_mem_cons.mpr ⟨trivial, List.forall_mem_cons.mpr ⟨trivial, List.forall_mem_cons.mpr ⟨trivial, List.forall_mem_cons.mpr ⟨trivial, List.forall_mem_cons.mpr ⟨trivial, List.forall_mem_cons.mpr ⟨trivial, List.forall_mem_cons.mpr ⟨w_227 _, List.forall_mem_cons.mpr ⟨trivial, List.forall_mem_cons.mpr ⟨w_192 _, List.forall_mem_cons.mpr ⟨trivial, List.forall_mem_cons.mpr ⟨trivial, List.forall_mem_cons.mpr ⟨trivial, List.forall_mem_cons.mpr ⟨trivial, List.forall_mem_cons.mpr ⟨w_219 _, List.forall_mem_cons.mpr ⟨trivial, List.forall_mem_cons.mpr ⟨trivial, List.forall_mem_cons.mpr ⟨trivial, List.forall_mem_cons.mpr ⟨trivial, List.forall_mem_cons.mpr ⟨w_220 _, List.forall_mem_cons.mpr ⟨trivial, List.forall_mem_cons.mpr ⟨trivial, List.forall_mem_cons.mpr ⟨trivial, List.forall_mem_cons.mpr ⟨trivial, List.forall_mem_cons.mpr ⟨trivial, List.forall_mem_cons.mpr ⟨trivial, List.forall_mem_cons.mpr ⟨trivial, List.forall_mem_cons.mpr ⟨trivial, List.forall_mem_cons.mpr ⟨trivial, List.forall_mem_cons.mpr ⟨w_223 _, List.forall_mem_cons.mpr ⟨trivial, List.forall_mem_cons.mpr ⟨trivial, List.forall_mem_cons.mpr ⟨trivial, List.forall_mem_cons.mpr ⟨trivial, List.forall_mem_cons.mpr ⟨trivial, List.forall_mem_cons.mpr ⟨trivial, List.forall_mem_cons.mpr ⟨w_207 _, List.forall_mem_cons.mpr ⟨trivial, List.forall_mem_cons.mpr ⟨trivial, List.forall_mem_cons.mpr ⟨trivial, List.forall_mem_cons.mpr ⟨trivial, List.forall_mem_cons.mpr ⟨trivial, List.forall_mem_cons.mpr ⟨trivial, List.forall_mem_cons.mpr ⟨trivial, List.forall_mem_cons.mpr ⟨trivial, List.forall_mem_cons.mpr ⟨trivial, List.forall_mem_cons.mpr ⟨w_230 _, List.forall_mem_cons.mpr ⟨trivial, List.forall_mem_cons.mpr ⟨trivial, fun _ h => absurd h List.not_mem_nil⟩⟩⟩⟩⟩⟩⟩⟩⟩⟩⟩⟩⟩⟩⟩⟩⟩⟩⟩⟩⟩⟩⟩⟩⟩⟩⟩⟩⟩⟩⟩⟩⟩⟩⟩⟩⟩⟩⟩⟩⟩⟩⟩⟩⟩⟩⟩⟩⟩⟩⟩⟩⟩⟩⟩⟩⟩⟩⟩⟩⟩⟩⟩⟩⟩⟩⟩⟩⟩⟩⟩⟩⟩⟩⟩⟩⟩⟩⟩⟩⟩⟩⟩⟩⟩
theorem ok_X5_data : ev_ok tbs t_X5_data := ⟨rfl, by decide +kernel, fun q hq => ⟨List.all_eq_true.mp kb_X5_data q hq, kw_X5_data q hq⟩⟩
end
section
set_option maxRecDepth 100000 in
theorem kb_X5_versions : t_X5_versions.2.all (fun q => ev_okB t_X5_versions.1.2.2.1 q.1 q.2) = true := by decide +kernel
set_option maxRecDepth 100000 in
set_option maxHeartbeats 4000000 in
theorem kw_X5_versions : ∀ q ∈ t_X5_versions.2, ev_okW tbs t_X5_versions.1.1 t_X5_versions.1.2.1.name q.2.2.2.1 q.2.2.2.2.1 q.2.2.2.2.2.1 q.2.2.2.2.2.2 q.2.1 := List.forall_mem_cons.mpr ⟨trivial, List.forall_mem_cons.mpr ⟨trivial, List.forall_mem_cons.mpr ⟨w_225 _, List.forall_mem_cons.mpr ⟨trivial, List.forall_mem_cons.mpr ⟨trivial, List.forall_mem_cons.mpr ⟨trivial, List.forall_mem_cons.mpr ⟨w_226 _, List.forall_mem_cons.mpr ⟨trivial, List.forall_mem_cons.mpr ⟨trivial, List.forall_mem_cons.mpr ⟨trivial, List.forall_mem_cons.mpr ⟨trivial, List.forall_mem_cons.mpr ⟨trivial, List.forall_mem_cons.mpr ⟨trivial, List.forall_mem_cons.mpr ⟨w_227 _, List.forall_mem_cons.mpr ⟨trivial, List.forall_mem_cons.mpr ⟨trivial, fun _ h => absurd h List.not_mem_nil⟩⟩⟩⟩⟩⟩⟩⟩⟩⟩⟩⟩⟩⟩⟩⟩
theorem ok_X5_versions : ev_ok tbs t_X5_versions := ⟨rfl, by decide +kernel, fun q hq => ⟨List.all_eq_true.mp kb_X5_versions q hq, kw_X5_versions q hq⟩⟩
set_option maxRecDepth 100000 in
theorem kb_X5_finalise : t_X5_finalise.2.all (fun q => ev_okB t_X5_finalise.1.2.2.1 q.1 q.2) = true := by decide +kernel
set_option maxRecDepth 100000 in
set_option maxHeartbeats 4000000 in
theorem kw_X5_finalise : ∀ q ∈ t_X5_finalise.2, ev_okW tbs t_X5_finalise.1.1 t_X5_finalise.1.2.1.name q.2.2.2.1 q.2.2.2.2.1 q.2.2.2.2.2.1 q.2.2.2.2.2.2 q.2.1 := List.forall_mem_cons.mpr ⟨trivial, List.forall_mem_cons.mpr ⟨trivial, List.forall_mem_cons.mpr ⟨w_225 _, List.forall_mem_cons.mpr ⟨trivial, List.forall_mem_cons.mpr ⟨trivial, List.forall_mem_cons.mpr ⟨trivial, List.forall_mem_cons.mpr ⟨w_226 _, List.forall_mem_cons.mpr ⟨trivial, List.forall_mem_cons.mpr ⟨trivial, List.forall_mem_cons.mpr ⟨trivial, List.forall_mem_cons.mpr ⟨trivial, List.forall_mem_cons.mpr ⟨w_222 _, List.forall_mem_cons.mpr ⟨trivial, List.forall_mem_cons.mpr ⟨trivial, List.forall_mem_cons.mpr ⟨trivial, List.forall_mem_cons.mpr ⟨trivial, List.forall_mem_cons.mpr ⟨trivial, List.forall_mem_cons.mpr ⟨trivial, List.forall_mem_cons.mpr ⟨trivial, List.forall_mem_cons.mpr ⟨trivial, List.forall_mem_cons.mpr ⟨trivial, List.forall_mem_cons.mpr ⟨trivial, List.forall_mem_cons.mpr ⟨trivial, List.forall_mem_cons.mpr ⟨w_193 _, List.forall_mem_cons.mpr ⟨trivial, List.forall_mem_cons.mpr ⟨trivial, List.forall_mem_cons.mpr ⟨w_224 _, List.forall_mem_cons.mpr ⟨trivial, List.forall_mem_cons.mpr ⟨trivial, List.forall_mem_cons.mpr ⟨trivial, List.forall_mem_cons.mpr ⟨trivial, List.forall_mem_cons.mpr ⟨trivial, List.forall_mem_cons.mpr ⟨trivial, List.forall_mem_cons.mpr ⟨trivial, List.forall_mem_cons.mpr ⟨trivial, List.forall_mem_cons.mpr ⟨trivial, List.forall_mem_cons.mpr ⟨trivial, List.forall_mem_cons.mpr ⟨w_193 _, List.forall_mem_cons.mpr ⟨trivial, List.forall_mem_cons.mpr ⟨trivial, List.forall_mem_cons.mpr ⟨trivial, List.forall_mem_cons.mpr ⟨trivial, List.forall_mem_cons.mpr ⟨trivial, List.forall_mem_cons.mpr ⟨w_194 _, List.forall_mem_cons.mpr ⟨trivial, List.forall_mem_cons.mpr ⟨trivial, List.forall_mem_cons.mpr ⟨trivial, List.forall_mem_cons.mpr ⟨trivial, List.forall_mem_cons.mpr ⟨trivial, List.forall_mem_cons.mpr ⟨trivial, List.forall_mem_cons.mpr ⟨w_224 _, List.forall_mem_cons.mpr ⟨trivial, List.forall_mem_cons.mpr ⟨trivial, List.forall_mem_cons.mpr ⟨trivial, List.forall_mem_cons.mpr ⟨trivial, List.forall_mem_cons.mpr ⟨trivial, List.forall_mem_cons.mpr ⟨trivial, List.forall_mem_cons.mpr ⟨w_196 _, List.forall_mem_cons.mpr ⟨trivial, List.forall_mem_cons.mpr ⟨trivial, List.forall_mem_cons.mpr ⟨trivial, List.forall_mem_cons.mpr ⟨trivial, List.forall_mem_cons.mpr ⟨trivial, List.forall_mem_cons.mpr ⟨trivial, List.forall_mem_cons.mpr ⟨w_222 _, List.forall_mem_cons.mpr ⟨trivial, List.forall_mem_cons.mpr ⟨trivial, List.forall_mem_cons.mpr ⟨trivial, List.forall_mem_cons.mpr ⟨trivial, List.forall_mem_cons.mpr ⟨trivial, fun _ h => absurd h List.not_mem_nil⟩⟩⟩⟩⟩⟩⟩⟩⟩⟩⟩⟩⟩⟩⟩⟩⟩⟩⟩⟩⟩⟩⟩⟩⟩⟩⟩⟩⟩⟩⟩⟩⟩⟩⟩⟩⟩⟩⟩⟩⟩⟩⟩⟩⟩⟩⟩⟩⟩⟩⟩⟩⟩⟩⟩⟩⟩⟩⟩⟩⟩⟩⟩⟩⟩⟩⟩⟩⟩⟩
theorem ok_X5_finalise : ev_ok tbs t_X5_finalise := ⟨rfl, by decide +kernel, fun q hq => ⟨List.all_eq_true.mp kb_X5_finalise q hq, kw_X5_finalise q hq⟩⟩
set_option maxRecDepth 100000 in
theorem kb_X5_stop : t_X5_stop.2.all (fun q => ev_okB t_X5_stop.1.2.2.1 q.1 q.2) = true := by decide +kernel
set_option maxRecDepth 100000 in
set_option maxHeartbeats 4000000 in
theorem kw_X5_stop : ∀ q ∈ t_X5_stop.2, ev_okW tbs t_X5_stop.1.1 t_X5_stop.1.2.1.name q.2.2.2.1 q.2.2.2.2.1 q.2.2.2.2.2.1 q.2.2.2.2.2.2 q.2.1 := List.forall_mem_cons.mpr ⟨trivial, List.forall_mem_cons.mpr ⟨trivial, List.forall_mem_cons.mpr ⟨w_225 _, List.forall_mem_cons.mpr ⟨trivial, List.forall_mem_cons.mpr ⟨trivial, List.forall_mem_cons.mpr ⟨trivial, List.forall_mem_cons.mpr ⟨w_226 _, List.forall_mem_cons.mpr ⟨trivial, List.forall_mem_cons.mpr ⟨trivial, List.forall_mem_cons.mpr ⟨trivial, List.forall_mem_cons.mpr ⟨trivial, List.forall_mem_cons.mpr ⟨w_222 _, List.forall_mem_cons.mpr ⟨trivial, List.forall_mem_cons.mpr ⟨trivial, List.forall_mem_cons.mpr ⟨trivial, List.forall_mem_cons.mpr ⟨trivial, List.forall_mem_cons.mpr ⟨trivial, List.forall_mem_cons.mpr ⟨trivial, List.forall_mem_cons.mpr ⟨trivial, List.forall_mem_cons.mpr ⟨w_222 _, List.forall_mem_cons.mpr ⟨trivial, List.forall_mem_cons.mpr ⟨trivial, List.forall_mem_cons.mpr ⟨trivial, List.forall_mem_cons.mpr ⟨trivial, List.forall_mem_cons.mpr ⟨trivial, fun _ h => absurd h List.not_mem_nil⟩⟩⟩⟩⟩⟩⟩⟩⟩⟩⟩⟩⟩⟩⟩⟩⟩⟩⟩⟩⟩⟩⟩⟩⟩
theorem ok_X5_stop : ev_ok tbs t_X5_stop := ⟨rfl, by decide +kernel, fun q hq => ⟨List.all_eq_true.mp kb_X5_stop q hq, kw_X5_stop q hq⟩⟩
set_option maxRecDepth 100000 in
theorem kb_X5_remove : t_X5_remove.2.all (fun q => ev_okB t_X5_remove.1.2.2.1 q.1 q.2) = true := by decide +kernel
set_option maxRecDepth 100000 in
set_option maxHeartbeats 4000000 in
theorem kw_X5_remove : ∀ q ∈ t_X5_remove.2, ev_okW tbs t_X5_remove.1.1 t_X5_remove.1.2.1.name q.2.2.2.1 q.2.2.2.2.1 q.2.2.2.2.2.1 q.2.2.2.2.2.2 q.2.1 := List.forall_mem_cons.mpr ⟨trivial, List.forall_mem_cons.mpr ⟨trivial, List.forall_mem_cons.mpr ⟨w_225 _, List.forall_mem_cons.mpr ⟨trivial, List.forall_mem_cons.mpr ⟨trivial, List.forall_mem_cons.mpr ⟨trivial, List.forall_mem_cons.mpr ⟨trivial, List.forall_mem_cons.mpr ⟨w_217 _, List.forall_mem_cons.mpr ⟨trivial, List.forall_mem_cons.mpr ⟨trivial, List.forall_mem_cons.mpr ⟨w_218 _, List.forall_mem_cons.mpr ⟨trivial, List.forall_mem_cons.mpr ⟨trivial, List.forall_mem_cons.mpr ⟨trivial, List.forall_mem_cons.mpr ⟨trivial, List.forall_mem_cons.mpr ⟨trivial, List.forall_mem_cons.mpr ⟨trivial, List.forall_mem_cons.mpr ⟨w_192 _, List.forall_mem_cons.mpr ⟨trivial, List.forall_mem_cons.mpr ⟨trivial, List.forall_mem_cons.mpr ⟨trivial, List.forall_mem_cons.mpr ⟨trivial, List.forall_mem_cons.mpr ⟨trivial, List.forall_mem_cons.mpr ⟨w_222 _, List.forall_mem_cons.mpr ⟨trivial, List.forall_mem_cons.mpr ⟨w_192 _, List.forall_mem_cons.mpr ⟨trivial, List.forall_mem_cons.mpr ⟨trivial, List.forall_mem_cons.mpr ⟨trivial, List.forall_mem_cons.mpr ⟨trivial, List.forall_mem_cons.mpr ⟨trivial, List.forall_mem_cons.mpr ⟨trivial, List.forall_mem_cons.mpr ⟨trivial, List.forall_mem_cons.mpr ⟨trivial, List.forall_mem_cons.mpr ⟨w_218 _, List.forall_mem_cons.mpr ⟨trivial, List.forall_mem_cons.mpr ⟨trivial, List.forall_mem_cons.mpr ⟨trivial, List.forall_mem_cons.mpr ⟨trivial, List.forall_mem_cons.mpr ⟨trivial, List.forall_mem_cons.mpr ⟨w_222 _, List.forall_mem_cons.mpr ⟨trivial, List.forall_mem_cons.mpr ⟨trivial, List.forall_mem_cons.mpr ⟨trivial, List.forall_mem_cons.mpr ⟨trivial, List.forall_mem_cons.mpr ⟨trivial, List.forall_mem_cons.mpr ⟨trivial, List.forall_mem_cons.mpr ⟨w_232 _, List.forall_mem_cons.mpr ⟨trivial, List.forall_mem_cons.mpr ⟨trivial, List.forall_mem_cons.mpr ⟨trivial, List.forall_mem_cons.mpr ⟨trivial, List.forall_mem_cons.mpr ⟨trivial, List.forall_mem_cons.mpr ⟨trivial, List.forall_mem_cons.mpr ⟨w_227 _, List.forall_mem_cons.mpr ⟨trivial, List.forall_mem_cons.mpr ⟨trivial, fun _ h => absurd h List.not_mem_nil⟩⟩⟩⟩⟩⟩⟩⟩⟩⟩⟩⟩⟩⟩⟩⟩⟩⟩⟩⟩⟩⟩⟩⟩⟩⟩⟩⟩⟩⟩⟩⟩⟩⟩⟩⟩⟩⟩⟩⟩⟩⟩⟩⟩⟩⟩⟩⟩⟩⟩⟩⟩⟩⟩⟩⟩⟩
theorem ok_X5_remove : ev_ok tbs t_X5_remove := ⟨rfl, by decide +kernel, fun q hq => ⟨List.all_eq_true.mp kb_X5_remove q hq, kw_X5_remove q hq⟩⟩
set_option maxRecDepth 100000 in
theorem kb_X5_enter : t_X5_enter.2.all (fun q => ev_okB t_X5_enter.1.2.2.1 q.1 q.2) = true := by decide +kernel
set_option maxRecDepth 100000 in
set_option maxHeartbeats 4000000 in
theorem kw_X5_enter : ∀ q ∈ t_X5_enter.2, ev_okW tbs t_X5_enter.1.1 t_X5_enter.1.2.1.name q.2.2.2.1 q.2.2.2.2.1 q.2.2.2.2.2.1 q.2.2.2.2.2.2 q.2.1 := List.forall_mem_cons.mpr ⟨trivial, List.forall_mem_cons.mpr ⟨trivial, List.forall_mem_cons.mpr ⟨w_225 _, List.forall_mem_cons.mpr ⟨trivial, List.forall_mem_cons.mpr ⟨trivial, List.forall_mem_cons.mpr ⟨trivial, List.forall_mem_cons.mpr ⟨w_226 _, List.forall_mem_cons.mpr ⟨trivial, List.forall_mem_cons.mpr ⟨trivial, List.forall_mem_cons.mpr ⟨trivial, List.forall_mem_cons.mpr ⟨trivial, List.forall_mem_cons.mpr ⟨w_222 _, List.forall_mem_cons.mpr ⟨trivial, List.forall_mem_cons.mpr ⟨w_192 _, List.forall_mem_cons.mpr ⟨trivial, List.forall_mem_cons.mpr ⟨trivial, List.forall_mem_cons.mpr ⟨trivial, List.forall_mem_cons.mpr ⟨trivial, List.forall_mem_cons.mpr ⟨trivial, List.forall_mem_cons.mpr ⟨trivial, List.forall_mem_cons.mpr ⟨w_223 _, List.forall_mem_cons.mpr ⟨trivial, List.forall_mem_cons.mpr ⟨trivial, List.forall_mem_cons.mpr ⟨trivial, List.forall_mem_cons.mpr ⟨trivial, List.forall_mem_cons.mpr ⟨trivial, List.forall_mem_cons.mpr ⟨trivial, List.forall_mem_cons.mpr ⟨trivial, List.forall_mem_cons.mpr ⟨trivial, List.forall_mem_cons.mpr ⟨trivial, List.forall_mem_cons.mpr ⟨trivial, List.forall_mem_cons.mpr ⟨trivial, List.forall_mem_cons.mpr ⟨trivial, List.forall_mem_cons.mpr ⟨trivial, List.forall_mem_cons.mpr ⟨trivial, List.forall_mem_cons.mpr ⟨trivial, List.forall_mem_cons.mpr ⟨trivial, List.forall_mem_cons.mpr ⟨trivial, List.forall_mem_cons.mpr ⟨trivial, List.forall_mem_cons.mpr ⟨trivial, List.forall_mem_cons.mpr ⟨trivial, List.forall_mem_cons.mpr ⟨trivial, List.forall_mem_cons.mpr ⟨trivial, List.forall_mem_cons.mpr ⟨w_233 _, List.forall_mem_cons.mpr ⟨trivial, List.forall_mem_cons.mpr ⟨trivial, List.forall_mem_cons.mpr ⟨trivial, List.forall_mem_cons.mpr ⟨trivial, List.forall_mem_cons.mpr ⟨trivial, List.forall_mem_cons.mpr ⟨trivial, List.forall_mem_cons.mpr ⟨w_233 _, List.forall_mem_cons.mpr ⟨trivial, List.forall_mem_cons.mpr ⟨trivial, List.forall_mem_cons.mpr ⟨trivial, List.forall_mem_cons.mpr ⟨trivial, List.forall_mem_cons.mpr ⟨w_233 _, List.forall_mem_cons.mpr ⟨trivial, List.forall_mem_cons.mpr ⟨trivial, List.forall_mem_cons.mpr ⟨trivial, List.forall_mem_cons.mpr ⟨trivial, List.forall_mem_cons.mpr ⟨trivial, List.forall_mem_cons.mpr ⟨w_223 _, List.forall_mem_cons.mpr ⟨trivial, List.forall_mem_cons.mpr ⟨trivial, List.forall_mem_cons.mpr ⟨trivial, List.forall_mem_cons.mpr ⟨trivial, List.forall_mem_cons.mpr ⟨w_234 _, List.forall_mem_cons.mpr ⟨trivial, List.forall_mem_cons.mpr ⟨trivial, List.forall_mem_cons.mpr ⟨trivial, List.forall_mem_cons.mpr ⟨w_235 _, List.forall_mem_cons.mpr ⟨trivial, fun _ h => absurd h List.not_mem_nil⟩⟩⟩⟩⟩⟩⟩⟩⟩⟩⟩⟩⟩⟩⟩⟩⟩⟩⟩⟩⟩⟩⟩⟩⟩⟩⟩⟩⟩⟩⟩⟩⟩⟩⟩⟩⟩⟩⟩⟩⟩⟩⟩⟩⟩⟩⟩⟩⟩⟩⟩⟩⟩⟩⟩⟩⟩⟩⟩⟩⟩⟩⟩⟩⟩⟩⟩⟩⟩⟩⟩⟩
theorem ok_X5_enter : ev_ok tbs t_X5_enter := ⟨rfl, by decide +kernel, fun q hq => ⟨List.all_eq_true.mp kb_X5_enter q hq, kw_X5_enter q hq⟩⟩
set_option maxRecDepth 100000 in
theorem kb_X5_resume : t_X5_resume.2.all (fun q => ev_okB t_X5_resume.1.2.2.1 q.1 q.2) = true := by decide +kernel
set_option maxRecDepth 100000 in
set_option maxHeartbeats 4000000 in
theorem kw_X5_resume : ∀ q ∈ t_X5_resume.2, ev_okW tbs t_X5_resume.1.1 t_X5_resume.1.2.1.name q.2.2.2.1 q.2.2.2.2.1 q.2.2.2.2.2.1 q.2.2.2.2.2.2 q.2.1 := List.forall_mem_cons.mpr ⟨trivial, List.forall_mem_cons.mpr ⟨trivial, List.forall_mem_cons.mpr ⟨w_225 _, List.forall_mem_cons.mpr ⟨trivial, List.forall_mem_cons.mpr ⟨trivial, List.forall_mem_cons.mpr ⟨trivial, List.forall_mem_cons.mpr ⟨w_226 _, List.forall_mem_cons.mpr ⟨trivial, List.forall_mem_cons.mpr ⟨trivial, List.forall_mem_cons.mpr ⟨trivial, List.forall_mem_cons.mpr ⟨trivial, List.forall_mem_cons.mpr ⟨w_222 _, List.forall_mem_cons.mpr ⟨trivial, List.forall_mem_cons.mpr ⟨w_192 _, List.forall_mem_cons.mpr ⟨trivial, List.forall_mem_cons.mpr ⟨trivial, List.forall_mem_cons.mpr ⟨trivial, List.forall_mem_cons.mpr ⟨trivial, List.forall_mem_cons.mpr ⟨trivial, List.forall_mem_cons.mpr ⟨trivial, List.forall_mem_cons.mpr ⟨w_223 _, List.forall_mem_cons.mpr ⟨trivial, List.forall_mem_cons.mpr ⟨trivial, List.forall_mem_cons.mpr ⟨trivial, List.forall_mem_cons.mpr ⟨trivial, List.forall_mem_cons.mpr ⟨trivial, List.forall_mem_cons.mpr ⟨trivial, List.forall_mem_cons.mpr ⟨trivial, List.forall_mem_cons.mpr ⟨trivial, List.forall_mem_cons.mpr ⟨trivial, List.forall_mem_cons.mpr ⟨trivial, List.forall_mem_cons.mpr ⟨trivial, List.forall_mem_cons.mpr ⟨trivial, List.forall_mem_cons.mpr ⟨trivial, List.forall_mem_cons.mpr ⟨trivial, List.forall_mem_cons.mpr ⟨trivial, List.forall_mem_cons.mpr ⟨trivial, List.forall_mem_cons.mpr ⟨trivial, List.forall_mem_cons.mpr ⟨trivial, List.forall_mem_cons.mpr ⟨trivial, List.forall_mem_cons.mpr ⟨trivial, List.forall_mem_cons.mpr ⟨trivial, List.forall_mem_cons.mpr ⟨trivial, List.forall_mem_cons.mpr ⟨w_233 _, List.forall_mem_cons.mpr ⟨trivial, List.forall_mem_cons.mpr ⟨trivial, List.forall_mem_cons.mpr ⟨w_223 _, List.forall_mem_cons.mpr ⟨trivial, List.forall_mem_cons.mpr ⟨trivial, List.forall_mem_cons.mpr ⟨trivial, List.forall_mem_cons.mpr ⟨trivial, List.forall_mem_cons.mpr ⟨trivial, List.forall_mem_cons.mpr ⟨trivial, List.forall_mem_cons.mpr ⟨trivial, List.forall_mem_cons.mpr ⟨trivial, List.forall_mem_cons.mpr ⟨trivial, List.forall_mem_cons.mpr ⟨trivial, List.forall_mem_cons.mpr ⟨trivial, List.forall_mem_cons.mpr ⟨trivial, List.forall_mem_cons.mpr ⟨trivial, List.forall_mem_cons.mpr ⟨w_223 _, List.forall_mem_cons.mpr ⟨trivial, List.forall_mem_cons.mpr ⟨trivial, List.forall_mem_cons.mpr ⟨trivial, List.forall_mem_cons.mpr ⟨trivial, List.forall_mem_cons.mpr ⟨trivial, List.forall_mem_cons.mpr ⟨trivial, List.forall_mem_cons.mpr ⟨w_234 _, List.forall_mem_cons.mpr ⟨trivial, List.forall_mem_cons.mpr ⟨trivial, List.forall_mem_cons.mpr ⟨trivial, List.forall_mem_cons.mpr ⟨w_235 _, List.forall_mem_cons.mpr ⟨trivial, fun _ h => absurd h List.not_mem_nil⟩⟩⟩⟩⟩⟩⟩⟩⟩⟩⟩⟩⟩⟩⟩⟩⟩⟩⟩⟩⟩⟩⟩⟩⟩⟩⟩⟩⟩⟩⟩⟩⟩⟩⟩⟩⟩⟩⟩⟩⟩⟩⟩⟩⟩⟩⟩⟩⟩⟩⟩⟩⟩⟩⟩⟩⟩⟩⟩⟩⟩⟩⟩⟩⟩⟩⟩⟩⟩⟩⟩⟩⟩
theorem ok_X5_resume : ev_ok tbs t_X5_resume := ⟨rfl, by decide +kernel, fun q hq => ⟨List.all_eq_true.mp kb_X5_resume q hq, kw_X5_resume q hq⟩⟩
set_option maxRecDepth 100000 in
theorem kb_X5_run : t_X5_run.2.all (fun q => ev_okB t_X5_run.1.2.2.1 q.1 q.2) = true := by decide +kernel
set_option maxRecDepth 100000 in
set_option maxHeartbeats 4000000 in
theorem kw_X5_run : ∀ q ∈ t_X5_run.2, ev_okW tbs t_X5_run.1.1 t_X5_run.1.2.1.name q.2.2.2.1 q.2.2.2.2.1 q.2.2.2.2.2.1 q.2.2.2.2.2.2 q.2.1 := List.forall_mem_cons.mpr ⟨trivial, List.forall_mem_cons.mpr ⟨trivial, List.forall_mem_cons.mpr ⟨w_236 _, List.forall_mem_cons.mpr ⟨trivial, List.forall_mem_cons.mpr ⟨trivial, List.forall_mem_cons.mpr ⟨w_237 _, List.forall_mem_cons.mpr ⟨trivial, List.forall_mem_cons.mpr ⟨trivial, List.forall_mem_cons.mpr ⟨w_238 _, List.forall_mem_cons.mpr ⟨trivial, List.forall_mem_cons.mpr ⟨trivial, List.forall_mem_cons.mpr ⟨w_239 _, List.forall_mem_cons.mpr ⟨trivial, List.forall_mem_cons.mpr ⟨w_240 _, List.forall_mem_cons.mpr ⟨trivial, List.forall_mem_cons.mpr ⟨trivial, List.forall_mem_cons.mpr ⟨trivial, List.forall_mem_cons.mpr ⟨w_241 _, List.forall_mem_cons.mpr ⟨trivial, List.forall_mem_cons.mpr ⟨trivial, List.forall_mem_cons.mpr ⟨trivial, List.forall_mem_cons.mpr ⟨trivial, List.forall_mem_cons.mpr ⟨w_239 _, List.forall_mem_cons.mpr ⟨trivial, List.forall_mem_cons.mpr ⟨trivial, List.forall_mem_cons.mpr ⟨trivial, List.forall_mem_cons.mpr ⟨w_192 _, List.forall_mem_cons.mpr ⟨trivial, List.forall_mem_cons.mpr ⟨trivial, List.forall_mem_cons.mpr ⟨w_242 _, List.forall_mem_cons.mpr ⟨trivial, List.forall_mem_cons.mpr ⟨trivial, List.forall_mem_cons.mpr ⟨trivial, List.forall_mem_cons.mpr ⟨trivial, List.forall_mem_cons.mpr ⟨trivial, List.forall_mem_cons.mpr ⟨trivial, List.forall_mem_cons.mpr ⟨w_223 _, List.forall_mem_cons.mpr ⟨trivial, List.forall_mem_cons.mpr ⟨trivial, List.forall_mem_cons.mpr ⟨trivial, List.forall_mem_cons.mpr ⟨trivial, List.forall_mem_cons.mpr ⟨w_240 _, List.forall_mem_cons.mpr ⟨trivial, List.forall_mem_cons.mpr ⟨trivial, List.forall_mem_cons.mpr ⟨trivial, List.forall_mem_cons.mpr ⟨trivial, List.forall_mem_cons.mpr ⟨trivial, List.forall_mem_cons.mpr ⟨trivial, List.forall_mem_cons.mpr ⟨w_223 _, List.forall_mem_cons.mpr ⟨trivial, List.forall_mem_cons.mpr ⟨trivial, List.forall_mem_cons.mpr ⟨trivial, List.forall_mem_cons.mpr ⟨trivial, List.forall_mem_cons.mpr ⟨w_240 _, List.forall_mem_cons.mpr ⟨trivial, List.forall_mem_cons.mpr ⟨trivial, List.forall_mem_cons.mpr ⟨trivial, List.forall_mem_cons.mpr ⟨trivial, List.forall_mem_cons.mpr ⟨w_243 _, List.forall_mem_cons.mpr ⟨trivial, List.forall_mem_cons.mpr ⟨trivial, List.forall_mem_cons.mpr ⟨trivial, List.forall_mem_cons.mpr ⟨trivial, List.forall_mem_cons.mpr ⟨trivial, List.forall_mem_cons.mpr ⟨trivial, List.forall_mem_cons.mpr ⟨trivial, List.forall_mem_cons.mpr ⟨w_223 _, List.forall_mem_cons.mpr ⟨trivial, List.forall_mem_cons.mpr ⟨trivial, List.forall_mem_cons.mpr ⟨trivial, List.forall_mem_cons.mpr ⟨trivial, List.forall_mem_cons.mpr ⟨trivial, List.forall_mem_cons.mpr ⟨trivial, List.forall_mem_cons.mpr ⟨w_240 _, List.forall_mem_cons.mpr ⟨trivial, List.forall_mem_cons.mpr ⟨trivial, List.forall_mem_cons.mpr ⟨trivial, List.forall_mem_cons.mpr ⟨trivial, List.forall_mem_cons.mpr ⟨w_233 _, List.forall_mem_cons.mpr ⟨trivial, List.forall_mem_cons.mpr ⟨trivial, List.forall_mem_cons.mpr ⟨trivial, List.forall_mem_cons.mpr ⟨trivial, List.forall_mem_cons.mpr ⟨trivial, List.forall_mem_cons.mpr ⟨trivial, List.forall_mem_cons.mpr ⟨w_240 _, List.forall_mem_cons.mpr ⟨trivial, fun _ h => absurd h List.not_mem_nil⟩⟩⟩⟩⟩⟩⟩⟩⟩⟩⟩⟩⟩⟩⟩⟩⟩⟩⟩⟩⟩⟩⟩⟩⟩⟩⟩⟩⟩⟩⟩⟩⟩⟩⟩⟩⟩⟩⟩⟩⟩⟩⟩⟩⟩⟩⟩⟩⟩⟩⟩⟩⟩⟩⟩⟩⟩⟩⟩⟩⟩⟩⟩⟩⟩⟩⟩⟩⟩⟩⟩⟩⟩⟩⟩⟩⟩⟩⟩⟩⟩⟩⟩⟩⟩⟩⟩
theorem ok_X5_run : ev_ok tbs t_X5_run := ⟨rfl, by decide +kernel, fun q hq => ⟨List.all_eq_true.mp kb_X5_run q hq, kw_X5_run q hq⟩⟩
set_option maxRecDepth 100000 in
theorem kb_X5_reach : t_X5_reach.2.all (fun q => ev_okB t_X5_reach.1.2.2.1 q.1 q.2) = true := by decide +kernel
set_option maxRecDepth 100000 in
set_option maxHeartbeats 4000000 in
theorem kw_X5_reach : ∀ q ∈ t_X5_reach.2, ev_okW tbs t_X5_reach.1.1 t_X5_reach.1.2.1.name q.2.2.2.1 q.2.2.2.2.1 q.2.2.2.2.2.1 q.2.2.2.2.2.2 q.2.1 := List.forall_mem_cons.mpr ⟨trivial, List.forall_mem_cons.mpr ⟨trivial, List.forall_mem_cons.mpr ⟨trivial, List.forall_mem_cons.mpr ⟨trivial, List.forall_mem_cons.mpr ⟨trivial, List.forall_mem_cons.mpr ⟨trivial, List.forall_mem_cons.mpr ⟨trivial, List.forall_mem_cons.mpr ⟨trivial, List.forall_mem_cons.mpr ⟨trivial, List.forall_mem_cons.mpr ⟨trivial, List.forall_mem_cons.mpr ⟨trivial, List.forall_mem_cons.mpr ⟨trivial, List.forall_mem_cons.mpr ⟨w_231 _, List.forall_mem_cons.mpr ⟨trivial, List.forall_mem_cons.mpr ⟨trivial, List.forall_mem_cons.mpr ⟨trivial, List.forall_mem_cons.mpr ⟨trivial, List.forall_mem_cons.mpr ⟨trivial, List.forall_mem_cons.mpr ⟨w_220 _, List.forall_mem_cons.mpr ⟨trivial, List.forall_mem_cons.mpr ⟨trivial, List.forall_mem_cons.mpr ⟨trivial, List.forall_mem_cons.mpr ⟨trivial, List.forall_mem_cons.mpr ⟨trivial, List.forall_mem_cons.mpr ⟨trivial, List.forall_mem_cons.mpr ⟨trivial, List.forall_mem_cons.mpr ⟨trivial, List.forall_mem_cons.mpr ⟨trivial, List.forall_mem_cons.mpr ⟨trivial, List.forall_mem_cons.mpr ⟨trivial, List.forall_mem_cons.mpr ⟨trivial, List.forall_mem_cons.mpr ⟨trivial, List.forall_mem_cons.mpr ⟨trivial, List.forall_mem_cons.mpr ⟨trivial, List.forall_mem_cons.mpr ⟨w_239 _, List.forall_mem_cons.mpr ⟨trivial, List.forall_mem_cons.mpr ⟨trivial, List.forall_mem_cons.mpr ⟨trivial, List.forall_mem_cons.mpr ⟨trivial, List.forall_mem_cons.mpr ⟨trivial, List.forall_mem_cons.mpr ⟨trivial, List.forall_mem_cons.mpr ⟨trivial, List.forall_mem_cons.mpr ⟨trivial, List.forall_mem_cons.mpr ⟨trivial, List.forall_mem_cons.mpr ⟨trivial, List.forall_mem_cons.mpr ⟨trivial, List.forall_mem_cons.mpr ⟨w_238 _, List.forall_mem_cons.mpr ⟨trivial, List.forall_mem_cons.mpr ⟨trivial, fun _ h => absurd h List.not_mem_nil⟩⟩⟩⟩⟩⟩⟩⟩⟩⟩⟩⟩⟩⟩⟩⟩⟩⟩⟩⟩⟩⟩⟩⟩⟩⟩⟩⟩⟩⟩⟩⟩⟩⟩⟩⟩⟩⟩⟩⟩⟩⟩⟩⟩⟩⟩⟩⟩⟩
theorem ok_X5_reach : ev_ok tbs t_X5_reach := ⟨rfl, by decide +kernel, fun q hq => ⟨List.all_eq_true.mp kb_X5_reach q hq, kw_X5_reach q hq⟩⟩
set_option maxRecDepth 100000 in
theorem kb_X5_step : t_X5_step.2.all (fun q => ev_okB t_X5_step.1.2.2.1 q.1 q.2) = true := by decide +kernel
set_option maxRecDepth 100000 in
set_option maxHeartbeats 4000000 in
theorem kw_X5_step : ∀ q ∈ t_X5_step.2, ev_okW tbs t_X5_step.1.1 t_X5_step.1.2.1.name q.2.2.2.1 q.2.2.2.2.1 q.2.2.2.2.2.1 q.2.2.2.2.2.2 q.2.1 := List.forall_mem_cons.mpr ⟨trivial, List.forall_mem_cons.mpr ⟨trivial, List.forall_mem_cons.mpr ⟨trivial, List.forall_mem_cons.mpr ⟨w_243 _, List.forall_mem_cons.mpr ⟨trivial, List.forall_mem_cons.mpr ⟨w_244 _, List.forall_mem_cons.mpr ⟨trivial, List.forall_mem_cons.mpr ⟨trivial, List.forall_mem_cons.mpr ⟨trivial, List.forall_mem_cons.mpr ⟨trivial, List.forall_mem_cons.mpr ⟨trivial, List.forall_mem_cons.mpr ⟨trivial, List.forall_mem_cons.mpr ⟨w_223 _, List.forall_mem_cons.mpr ⟨trivial, List.forall_mem_cons.mpr ⟨trivial, List.forall_mem_cons.mpr ⟨trivial, List.forall_mem_cons.mpr ⟨trivial, List.forall_mem_cons.mpr ⟨trivial, List.forall_mem_cons.mpr ⟨trivial, List.forall_mem_cons.mpr ⟨trivial, List.forall_mem_cons.mpr ⟨trivial, List.forall_mem_cons.mpr ⟨trivial, List.forall_mem_cons.mpr ⟨trivial, List.forall_mem_cons.mpr ⟨trivial, List.forall_mem_cons.mpr ⟨trivial, List.forall_mem_cons.mpr ⟨trivial, List.forall_mem_cons.mpr ⟨trivial, List.forall_mem_cons.mpr ⟨trivial, List.forall_mem_cons.mpr ⟨trivial, List.forall_mem_cons.mpr ⟨trivial, List.forall_mem_cons.mpr ⟨trivial, List.forall_mem_cons.mpr ⟨trivial, List.forall_mem_cons.mpr ⟨trivial, List.forall_mem_cons.mpr ⟨trivial, List.forall_mem_cons.mpr ⟨trivial, List.forall_mem_cons.mpr ⟨trivial, List.forall_mem_cons.mpr ⟨trivial, List.forall_mem_cons.mpr ⟨trivial, List.forall_mem_cons.mpr ⟨trivial, List.forall_mem_cons.mpr ⟨trivial, List.forall_mem_cons.mpr ⟨w_243 _, List.forall_mem_cons.mpr ⟨trivial, List.forall_mem_cons.mpr ⟨trivial, List.forall_mem_cons.mpr ⟨trivial, List.forall_mem_cons.mpr ⟨trivial, List.forall_mem_cons.mpr ⟨trivial, List.forall_mem_cons.mpr ⟨trivial, List.forall_mem_cons.mpr ⟨trivial, List.forall_mem_cons.mpr ⟨trivial, List.forall_mem_cons.mpr ⟨trivial, List.forall_mem_cons.mpr ⟨w_239 _, List.forall_mem_cons.mpr ⟨trivial, List.forall_mem_cons.mpr ⟨trivial, List.forall_mem_cons.mpr ⟨w_233 _, List.forall_mem_cons.mpr ⟨trivial, List.forall_mem_cons.mpr ⟨trivial, List.forall_mem_cons.mpr ⟨w_237 _, List.forall_mem_cons.mpr ⟨trivial, List.forall_mem_cons.mpr ⟨trivial, List.forall_mem_cons.mpr ⟨w_233 _, List.forall_mem_cons.mpr ⟨trivial, List.forall_mem_cons.mpr ⟨trivial, List.forall_mem_cons.mpr ⟨trivial, List.forall_mem_cons.mpr ⟨trivial, List.forall_mem_cons.mpr ⟨trivial, List.forall_mem_cons.mpr ⟨w_233 _, List.forall_mem_cons.mpr ⟨trivial, List.forall_mem_cons.mpr ⟨trivial, List.forall_mem_cons.mpr ⟨w_233 _, List.forall_mem_cons.mpr ⟨trivial, List.forall_mem_cons.mpr ⟨trivial, List.forall_mem_cons.mpr ⟨trivial, List.forall_mem_cons.mpr ⟨w_233 _, List.forall_mem_cons.mpr ⟨trivial, List.forall_mem_cons.mpr ⟨trivial, List.forall_mem_cons.mpr ⟨trivial, List.forall_mem_cons.mpr ⟨trivial, List.forall_mem_cons.mpr ⟨trivial, List.forall_mem_cons.mpr ⟨trivial, List.forall_mem_cons.mpr ⟨w_233 _, List.forall_mem_cons.mpr ⟨trivial, List.forall_mem_cons.mpr ⟨trivial, List.forall_mem_cons.mpr ⟨w_233 _, List.forall_mem_cons.mpr ⟨trivial, List.forall_mem_cons.mpr ⟨trivial, List.forall_mem_cons.mpr ⟨trivial, List.forall_mem_cons.mpr ⟨w_233 _, List.forall_mem_cons.mpr ⟨trivial, List.forall_mem_cons.mpr ⟨trivial, List.forall_mem_cons.mpr ⟨trivial, List.forall_mem_cons.mpr ⟨trivial, List.forall_mem_cons.mpr ⟨trivial, List.forall_mem_cons.mpr ⟨trivial, List.forall_mem_cons.mpr ⟨w_233 _, List.forall_mem_cons.mpr ⟨trivial, List.forall_mem_cons.mpr ⟨trivial, List.forall_mem_cons.mpr ⟨w_233 _, List.forall_mem_cons.mpr ⟨trivial, List.forall_mem_cons.mpr ⟨trivial, List.forall_mem_cons.mpr ⟨trivial, List.forall_mem_cons.mpr ⟨w_233 _, List.forall_mem_cons.mpr ⟨trivial, List.forall_mem_cons.mpr ⟨trivial, List.forall_mem_cons.mpr ⟨trivial, List.forall_mem_cons.mpr ⟨trivial, List.forall_mem_cons.mpr ⟨trivial, List.forall_mem_cons.mpr ⟨trivial, List.forall_mem_cons.mpr ⟨trivial, List.forall_mem_cons.mpr ⟨trivial, List.forall_mem_cons.mpr ⟨w_233 _, List.forall_mem_cons.mpr ⟨trivial, List.forall_mem_cons.mpr ⟨trivial, List.forall_mem_cons.mpr ⟨trivial, List.forall_mem_cons.mpr ⟨trivial, List.forall_mem_cons.mpr ⟨trivial, List.forall_mem_cons.mpr ⟨w_244 _, List.forall_mem_cons.mpr ⟨trivial, List.forall_mem_cons.mpr ⟨trivial, List.forall_mem_cons.mpr ⟨trivial, List.forall_mem_cons.mpr ⟨trivial, List.forall_mem_cons.mpr ⟨trivial, List.forall_mem_cons.mpr ⟨trivial, List.forall_mem_cons.mpr ⟨w_233 _, List.forall_mem_cons.mpr ⟨trivial, List.forall_mem_cons.mpr ⟨trivial, List.forall_mem_cons.mpr ⟨w_223 _, List.forall_mem_cons.mpr ⟨trivial, List.forall_mem_cons.mpr ⟨trivial, List.forall_mem_cons.mpr ⟨trivial, List.forall_mem_cons.mpr ⟨trivial, List.forall_mem_cons.mpr ⟨trivial, List.forall_mem_cons.mpr ⟨trivial, List.forall_mem_cons.mpr ⟨trivial, List.forall_mem_cons.mpr ⟨w_233 _, List.forall_mem_cons.mpr ⟨trivial, List.forall_mem_cons.mpr ⟨trivial, List.forall_mem_cons.mpr ⟨trivial, List.forall_mem_cons.mpr ⟨trivial, List.forall_mem_cons.mpr ⟨trivial, List.forall_mem_cons.mpr ⟨w_244 _, List.forall_mem_cons.mpr ⟨trivial, List.forall_mem_cons.mpr ⟨trivial, List.forall_mem_cons.mpr ⟨trivial, List.forall_mem_cons.mpr ⟨trivial, List.forall_mem_cons.mpr ⟨trivial, List.forall_mem_cons.mpr ⟨trivial, List.forall_mem_cons.mpr ⟨w_223 _, List.forall_mem_cons.mpr ⟨trivial, List.forall_mem_cons.mpr ⟨trivial, List.forall_mem_cons.mpr ⟨w_233 _, List.forall_mem_cons.mpr ⟨trivial, List.forall_mem_cons.mpr ⟨trivial, List.forall_mem_cons.mpr ⟨trivial, List.forall_mem_cons.mpr ⟨trivial, List.forall_mem_cons.mpr ⟨trivial, List.forall_mem_cons.mpr ⟨w_233 _, List.forall_mem_cons.mpr ⟨trivial, List.forall_mem_cons.mpr ⟨trivial, List.forall_mem_cons.mpr ⟨trivial, List.forall_mem_cons.mpr ⟨trivial, List.forall_mem_cons.mpr ⟨w_243 _, List.forall_mem_cons.mpr ⟨trivial, List.forall_mem_cons.mpr ⟨trivial, List.forall_mem_cons.mpr ⟨trivial, List.forall_mem_cons.mpr ⟨trivial, List.forall_mem_cons.mpr ⟨trivial, List.forall_mem_cons.mpr ⟨trivial, List.forall_mem_cons.mpr ⟨trivial, List.forall_mem_cons.mpr ⟨w_233 _, List.forall_mem_cons.mpr ⟨trivial, List.forall_mem_cons.mpr ⟨trivial, List.forall_mem_cons.mpr ⟨w_233 _, List.forall_mem_cons.mpr ⟨trivial, List.forall_mem_cons.mpr ⟨trivial, List.forall_mem_cons.mpr ⟨trivial, List.forall_mem_cons.mpr ⟨trivial, List.forall_mem_cons.mpr ⟨trivial, List.forall_mem_cons.mpr ⟨trivial, List.forall_mem_cons.mpr ⟨trivial, List.forall_mem_cons.mpr ⟨trivial, List.forall_mem_cons.mpr ⟨trivial, List.forall_mem_cons.mpr ⟨w_233 _, List.forall_mem_cons.mpr ⟨trivial, List.forall_mem_cons.mpr ⟨trivial, List.forall_mem_cons.mpr ⟨w_224 _, List.forall_mem_cons.mpr ⟨trivial, List.forall_mem_cons.mpr ⟨trivial, List.forall_mem_cons.mpr ⟨trivial, List.forall_mem_cons.mpr ⟨trivial, List.forall_mem_cons.mpr ⟨trivial, List.forall_mem_cons.mpr ⟨trivial, List.forall_mem_cons.mpr ⟨trivial, List.forall_mem_cons.mpr ⟨trivial, List.forall_mem_cons.mpr ⟨trivial, List.forall_mem_cons.mpr ⟨trivial, List.forall_mem_cons.mpr ⟨w_239 _, List.forall_mem_cons.mpr ⟨trivial, List.forall_mem_cons.mpr ⟨trivial, List.forall_mem_cons.mpr ⟨trivial, List.forall_mem_cons.mpr ⟨w_241 _, List.forall_mem_cons.mpr ⟨trivial, List.forall_mem_cons.mpr ⟨trivial, List.forall_mem_cons.mpr ⟨w_236 _, List.forall_mem_cons.mpr ⟨trivial, List.forall_mem_cons.mpr ⟨w_240 _, List.forall_mem_cons.mpr ⟨trivial, List.forall_mem_cons.mpr ⟨trivial, List.forall_mem_cons.mpr ⟨trivial, List.forall_mem_cons.mpr ⟨w_234 _, List.forall_mem_cons.mpr ⟨trivial, fun _ h => absurd h List.not_mem_nil⟩⟩⟩⟩⟩⟩⟩⟩⟩⟩⟩⟩⟩⟩⟩⟩⟩⟩⟩⟩⟩⟩⟩⟩⟩⟩⟩⟩⟩⟩⟩⟩⟩⟩⟩⟩⟩⟩⟩⟩⟩⟩⟩⟩⟩⟩⟩⟩⟩⟩⟩⟩⟩⟩⟩⟩⟩⟩⟩⟩⟩⟩⟩⟩⟩⟩⟩⟩⟩⟩⟩⟩⟩⟩⟩⟩⟩⟩⟩⟩⟩⟩⟩⟩⟩⟩⟩⟩⟩⟩⟩⟩⟩⟩⟩⟩⟩⟩⟩⟩⟩⟩⟩⟩⟩⟩⟩⟩⟩⟩⟩⟩⟩⟩⟩⟩⟩⟩⟩⟩⟩⟩⟩⟩⟩⟩⟩⟩⟩⟩⟩⟩⟩⟩⟩⟩⟩⟩⟩⟩⟩⟩⟩⟩⟩⟩⟩⟩⟩⟩⟩⟩⟩⟩⟩⟩⟩⟩⟩⟩⟩⟩⟩⟩⟩⟩⟩⟩⟩⟩⟩⟩⟩⟩⟩⟩⟩⟩⟩⟩⟩⟩⟩⟩⟩⟩⟩⟩⟩⟩⟩⟩⟩⟩⟩⟩⟩⟩⟩⟩⟩⟩⟩⟩⟩⟩⟩⟩⟩⟩
theorem ok_X5_step : ev_ok tbs t_X5_step := ⟨rfl, by decide +kernel, fun q hq => ⟨List.all_eq_true.mp kb_X5_step q hq, kw_X5_step q hq⟩⟩
set_option maxRecDepth 100000 in
theorem kb_X5_told : t_X5_told.2.all (fun q => ev_okB t_X5_told.1.2.2.1 q.1 q.2) = true := by decide +kernel
set_option maxRecDepth 100000 in
set_option maxHeartbeats 4000000 in
theorem kw_X5_told : ∀ q ∈ t_X5_told.2, ev_okW tbs t_X5_told.1.1 t_X5_told.1.2.1.name q.2.2.2.1 q.2.2.2.2.1 q.2.2.2.2.2.1 q.2.2.2.2.2.2 q.2.1 := List.forall_mem_cons.mpr ⟨trivial, List.forall_mem_cons.mpr ⟨trivial, List.forall_mem_cons.mpr ⟨w_225 _, List.forall_mem_cons.mpr ⟨trivial, List.forall_mem_cons.mpr ⟨w_240 _, List.forall_mem_cons.mpr ⟨trivial, List.forall_mem_cons.mpr ⟨trivial, List.forall_mem_cons.mpr ⟨trivial, List.forall_mem_cons.mpr ⟨trivial, List.forall_mem_cons.mpr ⟨trivial, List.forall_mem_cons.mpr ⟨trivial, List.forall_mem_cons.mpr ⟨trivial, List.forall_mem_cons.mpr ⟨w_240 _, List.forall_mem_cons.mpr ⟨trivial, List.forall_mem_cons.mpr ⟨trivial, List.forall_mem_cons.mpr ⟨w_245 _, List.forall_mem_cons.mpr ⟨trivial, List.forall_mem_cons.mpr ⟨trivial, List.forall_mem_cons.mpr ⟨w_246 _, List.forall_mem_cons.mpr ⟨trivial, List.forall_mem_cons.mpr ⟨trivial, List.forall_mem_cons.mpr ⟨w_241 _, List.forall_mem_cons.mpr ⟨trivial, List.forall_mem_cons.mpr ⟨trivial, List.forall_mem_cons.mpr ⟨trivial, fun _ h => absurd h List.not_mem_nil⟩⟩⟩⟩⟩⟩⟩⟩⟩⟩⟩⟩⟩⟩⟩⟩⟩⟩⟩⟩⟩⟩⟩⟩⟩
theorem ok_X5_told : ev_ok tbs t_X5_told := ⟨rfl, by decide +kernel, fun q hq => ⟨List.all_eq_true.mp kb_X5_told q hq, kw_X5_told q hq⟩⟩
set_option maxRecDepth 100000 in
theorem kb_X5_inSlot : t_X5_inSlot.2.all (fun q => ev_okB t_X5_inSlot.1.2.2.1 q.1 q.2) = true := by decide +kernel
set_option maxRecDepth 100000 in
set_option maxHeartbeats 4000000 in
theorem kw_X5_inSlot : ∀ q ∈ t_X5_inSlot.2, ev_okW tbs t_X5_inSlot.1.1 t_X5_inSlot.1.2.1.name q.2.2.2.1 q.2.2.2.2.1 q.2.2.2.2.2.1 q.2.2.2.2.2.2 q.2.1 := List.forall_mem_cons.mpr ⟨trivial, List.forall_mem_cons.mpr ⟨w_223 _, List.forall_mem_cons.mpr ⟨trivial, List.forall_mem_cons.mpr ⟨trivial, List.forall_mem_cons.mpr ⟨trivial, List.forall_mem_cons.mpr ⟨trivial, List.forall_mem_cons.mpr ⟨trivial, List.forall_mem_cons.mpr ⟨trivial, List.forall_mem_cons.mpr ⟨trivial, List.forall_mem_cons.mpr ⟨trivial, List.forall_mem_cons.mpr ⟨trivial, List.forall_mem_cons.mpr ⟨trivial, List.forall_mem_cons.mpr ⟨trivial, List.forall_mem_cons.mpr ⟨trivial, List.forall_mem_cons.mpr ⟨w_223 _, List.forall_mem_cons.mpr ⟨trivial, List.forall_mem_cons.mpr ⟨trivial, List.forall_mem_cons.mpr ⟨trivial, List.forall_mem_cons.mpr ⟨trivial, List.forall_mem_cons.mpr ⟨trivial, List.forall_mem_cons.mpr ⟨trivial, List.forall_mem_cons.mpr ⟨trivial, List.forall_mem_cons.mpr ⟨trivial, List.forall_mem_cons.mpr ⟨trivial, List.forall_mem_cons.mpr ⟨trivial, List.forall_mem_cons.mpr ⟨trivial, List.forall_mem_cons.mpr ⟨w_247 _, List.forall_mem_cons.mpr ⟨trivial, List.forall_mem_cons.mpr ⟨trivial, List.forall_mem_cons.mpr ⟨trivial, fun _ h => absurd h List.not_mem_nil⟩⟩⟩⟩⟩⟩⟩⟩⟩⟩⟩⟩⟩⟩⟩⟩⟩⟩⟩⟩⟩⟩⟩⟩⟩⟩⟩⟩⟩⟩
theorem ok_X5_inSlot : ev_ok tbs t_X5_inSlot := ⟨rfl, by decide +kernel, fun q hq => ⟨List.all_eq_true.mp kb_X5_inSlot q hq, kw_X5_inSlot q hq⟩⟩
set_option maxRecDepth 100000 in
theorem kb_X5_setSlot : t_X5_setSlot.2.all (fun q => ev_okB t_X5_setSlot.1.2.2.1 q.1 q.2) = true := by decide +kernel
set_option maxRecDepth 100000 in
set_option maxHeartbeats 4000000 in
theorem kw_X5_setSlot : ∀ q ∈ t_X5_setSlot.2, ev_okW tbs t_X5_setSlot.1.1 t_X5_setSlot.1.2.1.name q.2.2.2.1 q.2.2.2.2.1 q.2.2.2.2.2.1 q.2.2.2.2.2.2 q.2.1 := List.forall_mem_cons.mpr ⟨trivial, List.forall_mem_cons.mpr ⟨w_223 _, List.forall_mem_cons.mpr ⟨trivial, List.forall_mem_cons.mpr ⟨trivial, List.forall_mem_cons.mpr ⟨trivial, List.forall_mem_cons.mpr ⟨trivial, List.forall_mem_cons.mpr ⟨trivial, List.forall_mem_cons.mpr ⟨trivial, List.forall_mem_cons.mpr ⟨trivial, List.forall_mem_cons.mpr ⟨trivial, List.forall_mem_cons.mpr ⟨trivial, List.forall_mem_cons.mpr ⟨trivial, List.forall_mem_cons.mpr ⟨trivial, List.forall_mem_cons.mpr ⟨trivial, List.forall_mem_cons.mpr ⟨trivial, List.forall_mem_cons.mpr ⟨w_223 _, List.forall_mem_cons.mpr ⟨trivial, List.forall_mem_cons.mpr ⟨trivial, List.forall_mem_cons.mpr ⟨trivial, List.forall_mem_cons.mpr ⟨trivial, List.forall_mem_cons.mpr ⟨trivial, List.forall_mem_cons.mpr ⟨trivial, List.forall_mem_cons.mpr ⟨trivial, List.forall_mem_cons.mpr ⟨trivial, List.forall_mem_cons.mpr ⟨trivial, List.forall_mem_cons.mpr ⟨trivial, List.forall_mem_cons.mpr ⟨trivial, List.forall_mem_cons.mpr ⟨trivial, List.forall_mem_cons.mpr ⟨trivial, fun _ h => absurd h List.not_mem_nil⟩⟩⟩⟩⟩⟩⟩⟩⟩⟩⟩⟩⟩⟩⟩⟩⟩⟩⟩⟩⟩⟩⟩⟩⟩⟩⟩⟩⟩
theorem ok_X5_setSlot : ev_ok tbs t_X5_setSlot := ⟨rfl, by decide +kernel, fun q hq => ⟨List.all_eq_true.mp kb_X5_setSlot q hq, kw_X5_setSlot q hq⟩⟩
set_option maxRecDepth 100000 in
theorem kb_X5_evict : t_X5_evict.2.all (fun q => ev_okB t_X5_evict.1.2.2.1 q.1 q.2) = true := by decide +kernel
set_option maxRecDepth 100000 in
set_option maxHeartbeats 4000000 in
theorem kw_X5_evict : ∀ q ∈ t_X5_evict.2, ev_okW tbs t_X5_evict.1.1 t_X5_evict.1.2.1.name q.2.2.2.1 q.2.2.2.2.1 q.2.2.2.2.2.1 q.2.2.2.2.2.2 q.2.1 := List.forall_mem_cons.mpr ⟨trivial, List.forall_mem_cons.mpr ⟨trivial, List.forall_mem_cons.mpr ⟨w_225 _, List.forall_mem_cons.mpr ⟨trivial, List.forall_mem_cons.mpr ⟨trivial, List.forall_mem_cons.mpr ⟨trivial, List.forall_mem_cons.mpr ⟨w_226 _, List.forall_mem_cons.mpr ⟨trivial, List.forall_mem_cons.mpr ⟨trivial, List.forall_mem_cons.mpr ⟨trivial, List.forall_mem_cons.mpr ⟨trivial, List.forall_mem_cons.mpr ⟨w_226 _, List.forall_mem_cons.mpr ⟨trivial, List.forall_mem_cons.mpr ⟨trivial, List.forall_mem_cons.mpr ⟨trivial, List.forall_mem_cons.mpr ⟨trivial, List.forall_mem_cons.mpr ⟨w_226 _, List.forall_mem_cons.mpr ⟨trivial, List.forall_mem_cons.mpr ⟨trivial, List.forall_mem_cons.mpr ⟨trivial, List.forall_mem_cons.mpr ⟨trivial, List.forall_mem_cons.mpr ⟨w_222 _, List.forall_mem_cons.mpr ⟨trivial, List.forall_mem_cons.mpr ⟨w_192 _, List.forall_mem_cons.mpr ⟨trivial, List.forall_mem_cons.mpr ⟨trivial, List.forall_mem_cons.mpr ⟨trivial, List.forall_mem_cons.mpr ⟨trivial, List.forall_mem_cons.mpr ⟨trivial, List.forall_mem_cons.mpr ⟨trivial, List.forall_mem_cons.mpr ⟨trivial, List.forall_mem_cons.mpr ⟨trivial, List.forall_mem_cons.mpr ⟨trivial, List.forall_mem_cons.mpr ⟨trivial, List.forall_mem_cons.mpr ⟨trivial, List.forall_mem_cons.mpr ⟨trivial, List.forall_mem_cons.mpr ⟨trivial, List.forall_mem_cons.mpr ⟨trivial, List.forall_mem_cons.mpr ⟨trivial, List.forall_mem_cons.mpr ⟨w_248 _, List.forall_mem_cons.mpr ⟨trivial, List.forall_mem_cons.mpr ⟨trivial, List.forall_mem_cons.mpr ⟨trivial, List.forall_mem_cons.mpr ⟨trivial, List.forall_mem_cons.mpr ⟨trivial, List.forall_mem_cons.mpr ⟨trivial, List.forall_mem_cons.mpr ⟨trivial, List.forall_mem_cons.mpr ⟨w_249 _, List.forall_mem_cons.mpr ⟨trivial, List.forall_mem_cons.mpr ⟨trivial, List.forall_mem_cons.mpr ⟨w_250 _, List.forall_mem_cons.mpr ⟨trivial, List.forall_mem_cons.mpr ⟨w_207 _, List.forall_mem_cons.mpr ⟨trivial, List.forall_mem_cons.mpr ⟨trivial, List.forall_mem_cons.mpr ⟨w_218 _, List.forall_mem_cons.mpr ⟨trivial, List.forall_mem_cons.mpr ⟨trivial, List.forall_mem_cons.mpr ⟨trivial, List.forall_mem_cons.mpr ⟨trivial, List.forall_mem_cons.mpr ⟨w_207 _, List.forall_mem_cons.mpr ⟨trivial, List.forall_mem_cons.mpr ⟨trivial, List.forall_mem_cons.mpr ⟨w_219 _, List.forall_mem_cons.mpr ⟨trivial, List.forall_mem_cons.mpr ⟨trivial, List.forall_mem_cons.mpr ⟨trivial, List.forall_mem_cons.mpr ⟨trivial, List.forall_mem_cons.mpr ⟨w_207 _, List.forall_mem_cons.mpr ⟨trivial, List.forall_mem_cons.mpr ⟨trivial, List.forall_mem_cons.mpr ⟨w_220 _, List.forall_mem_cons.mpr ⟨trivial, List.forall_mem_cons.mpr ⟨trivial, List.forall_mem_cons.mpr ⟨trivial, List.forall_mem_cons.mpr ⟨trivial, List.forall_mem_cons.mpr ⟨w_207 _, List.forall_mem_cons.mpr ⟨trivial, List.forall_mem_cons.mpr ⟨trivial, List.forall_mem_cons.mpr ⟨w_221 _, List.forall_mem_cons.mpr ⟨trivial, List.forall_mem_cons.mpr ⟨w_192 _, List.forall_mem_cons.mpr ⟨trivial, List.forall_mem_cons.mpr ⟨trivial, List.forall_mem_cons.mpr ⟨trivial, List.forall_mem_cons.mpr ⟨trivial, List.forall_mem_cons.mpr ⟨trivial, List.forall_mem_cons.mpr ⟨w_207 _, List.forall_mem_cons.mpr ⟨trivial, List.forall_mem_cons.mpr ⟨trivial, List.forall_mem_cons.mpr ⟨w_249 _, List.forall_mem_cons.mpr ⟨trivial, List.forall_mem_cons.mpr ⟨trivial, List.forall_mem_cons.mpr ⟨trivial, List.forall_mem_cons.mpr ⟨trivial, List.forall_mem_cons.mpr ⟨trivial, List.forall_mem_cons.mpr ⟨w_207 _, List.forall_mem_cons.mpr ⟨trivial, List.forall_mem_cons.mpr ⟨trivial, List.forall_mem_cons.mpr ⟨w_249 _, List.forall_mem_cons.mpr ⟨trivial, List.forall_mem_cons.mpr ⟨trivial, List.forall_mem_cons.mpr ⟨trivial, List.forall_mem_cons.mpr ⟨w_207 _, List.forall_mem_cons.mpr ⟨trivial, List.forall_mem_cons.mpr ⟨trivial, List.forall_mem_cons.mpr ⟨trivial, List.forall_mem_cons.mpr ⟨trivial, List.forall_mem_cons.mpr ⟨w_207 _, List.forall_mem_cons.mpr ⟨trivial, List.forall_mem_cons.mpr ⟨trivial, List.forall_mem_cons.mpr ⟨trivial, List.forall_mem_cons.mpr ⟨trivial, List.forall_mem_cons.mpr ⟨trivial, List.forall_mem_cons.mpr ⟨w_223 _, List.forall_mem_cons.mpr ⟨trivial, List.forall_mem_cons.mpr ⟨trivial, List.forall_mem_cons.mpr ⟨trivial, List.forall_mem_cons.mpr ⟨trivial, List.forall_mem_cons.mpr ⟨w_207 _, List.forall_mem_cons.mpr ⟨trivial, List.forall_mem_cons.mpr ⟨w_251 _, List.forall_mem_cons.mpr ⟨trivial, List.forall_mem_cons.mpr ⟨w_252 _, List.forall_mem_cons.mpr ⟨trivial, List.forall_mem_cons.mpr ⟨trivial, List.forall_mem_cons.mpr ⟨trivial, List.forall_mem_cons.mpr ⟨trivial, List.forall_mem_cons.mpr ⟨trivial, List.forall_mem_cons.mpr ⟨trivial, List.forall_mem_cons.mpr ⟨w_207 _, List.forall_mem_cons.mpr ⟨trivial, List.forall_mem_cons.mpr ⟨trivial, List.forall_mem_cons.mpr ⟨trivial, List.forall_mem_cons.mpr ⟨trivial, List.forall_mem_cons.mpr ⟨w_196 _, List.forall_mem_cons.mpr ⟨trivial, List.forall_mem_cons.mpr ⟨trivial, List.forall_mem_cons.mpr ⟨trivial, List.forall_mem_cons.mpr ⟨trivial, List.forall_mem_cons.mpr ⟨trivial, List.forall_mem_cons.mpr ⟨trivial, List.forall_mem_cons.mpr ⟨trivial, List.forall_mem_cons.mpr ⟨trivial, List.forall_mem_cons.mpr ⟨trivial, List.forall_mem_cons.mpr ⟨w_249 _, List.forall_mem_cons.mpr ⟨w_253 _, List.forall_mem_cons.mpr ⟨trivial, List.forall_mem_cons.mpr ⟨trivial, List.forall_mem_cons.mpr ⟨trivial, List.forall_mem_cons.mpr ⟨w_227 _, List.forall_mem_cons.mpr ⟨trivial, List.forall_mem_cons.mpr ⟨trivial, fun _ h => absurd h List.not_mem_nil⟩⟩⟩⟩⟩⟩⟩⟩⟩⟩⟩⟩⟩⟩⟩⟩⟩⟩⟩⟩⟩⟩⟩⟩⟩⟩⟩⟩⟩⟩⟩⟩⟩⟩⟩⟩⟩⟩⟩⟩⟩⟩⟩⟩⟩⟩⟩⟩⟩⟩⟩⟩⟩⟩⟩⟩⟩⟩⟩⟩⟩⟩⟩⟩⟩⟩⟩⟩⟩⟩⟩⟩⟩⟩⟩⟩⟩⟩⟩⟩⟩⟩⟩⟩⟩⟩⟩⟩⟩⟩⟩⟩⟩⟩⟩⟩⟩⟩⟩⟩⟩⟩⟩⟩⟩⟩⟩⟩⟩⟩⟩⟩⟩⟩⟩⟩⟩⟩⟩⟩⟩⟩⟩⟩⟩⟩⟩⟩⟩⟩⟩⟩⟩⟩⟩⟩⟩⟩⟩⟩⟩⟩⟩⟩⟩⟩⟩⟩⟩⟩⟩⟩⟩
theorem ok_X5_evict : ev_ok tbs t_X5_evict := ⟨rfl, by decide +kernel, fun q hq => ⟨List.all_eq_true.mp kb_X5_evict q hq, kw_X5_evict q hq⟩⟩
set_option maxRecDepth 100000 in
theorem kb_X5_reload : t_X5_reload.2.all (fun q => ev_okB t_X5_reload.1.2.2.1 q.1 q.2) = true := by decide +kernel
set_option maxRecDepth 100000 in
set_option maxHeartbeats 4000000 in
theorem kw_X5_reload : ∀ q ∈ t_X5_reload.2, ev_okW tbs t_X5_reload.1.1 t_X5_reload.1.2.1.name q.2.2.2.1 q.2.2.2.2.1 q.2.2.2.2.2.1 q.2.2.2.2.2.2 q.2.1 := List.forall_mem_cons.mpr ⟨trivial, List.forall_mem_cons.mpr ⟨trivial, List.forall_mem_cons.mpr ⟨w_225 _, List.forall_mem_cons.mpr ⟨trivial, List.forall_mem_cons.mpr ⟨trivial, List.forall_mem_cons.mpr ⟨trivial, List.forall_mem_cons.mpr ⟨w_226 _, List.forall_mem_cons.mpr ⟨trivial, List.forall_mem_cons.mpr ⟨trivial, List.forall_mem_cons.mpr ⟨trivial, List.forall_mem_cons.mpr ⟨trivial, List.forall_mem_cons.mpr ⟨w_226 _, List.forall_mem_cons.mpr ⟨trivial, List.forall_mem_cons.mpr ⟨trivial, List.forall_mem_cons.mpr ⟨trivial, List.forall_mem_cons.mpr ⟨trivial, List.forall_mem_cons.mpr ⟨w_226 _, List.forall_mem_cons.mpr ⟨trivial, List.forall_mem_cons.mpr ⟨trivial, List.forall_mem_cons.mpr ⟨trivial, List.forall_mem_cons.mpr ⟨trivial, List.forall_mem_cons.mpr ⟨w_222 _, List.forall_mem_cons.mpr ⟨trivial, List.forall_mem_cons.mpr ⟨trivial, List.forall_mem_cons.mpr ⟨trivial, List.forall_mem_cons.mpr ⟨trivial, List.forall_mem_cons.mpr ⟨trivial, List.forall_mem_cons.mpr ⟨trivial, List.forall_mem_cons.mpr ⟨trivial, List.forall_mem_cons.mpr ⟨trivial, List.forall_mem_cons.mpr ⟨trivial, List.forall_mem_cons.mpr ⟨trivial, List.forall_mem_cons.mpr ⟨trivial, List.forall_mem_cons.mpr ⟨trivial, List.forall_mem_cons.mpr ⟨trivial, List.forall_mem_cons.mpr ⟨trivial, List.forall_mem_cons.mpr ⟨w_252 _, List.forall_mem_cons.mpr ⟨trivial, List.forall_mem_cons.mpr ⟨trivial, List.forall_mem_cons.mpr ⟨trivial, List.forall_mem_cons.mpr ⟨trivial, List.forall_mem_cons.mpr ⟨trivial, List.forall_mem_cons.mpr ⟨trivial, List.forall_mem_cons.mpr ⟨trivial, List.forall_mem_cons.mpr ⟨trivial, List.forall_mem_cons.mpr ⟨trivial, List.forall_mem_cons.mpr ⟨trivial, List.forall_mem_cons.mpr ⟨w_207 _, List.forall_mem_cons.mpr ⟨trivial, List.forall_mem_cons.mpr ⟨trivial, List.forall_mem_cons.mpr ⟨trivial, List.forall_mem_cons.mpr ⟨trivial, List.forall_mem_cons.mpr ⟨trivial, List.forall_mem_cons.mpr ⟨w_196 _, List.forall_mem_cons.mpr ⟨trivial, List.forall_mem_cons.mpr ⟨trivial, List.forall_mem_cons.mpr ⟨trivial, List.forall_mem_cons.mpr ⟨trivial, List.forall_mem_cons.mpr ⟨trivial, List.forall_mem_cons.mpr ⟨trivial, List.forall_mem_cons.mpr ⟨trivial, List.forall_mem_cons.mpr ⟨trivial, List.forall_mem_cons.mpr ⟨trivial, List.forall_mem_cons.mpr ⟨trivial, List.forall_mem_cons.mpr ⟨trivial, List.forall_mem_cons.mpr ⟨trivial, List.forall_mem_cons.mpr ⟨trivial, List.forall_mem_cons.mpr ⟨w_254 _, List.forall_mem_cons.mpr ⟨trivial, List.forall_mem_cons.mpr ⟨trivial, List.forall_mem_cons.mpr ⟨w_255 _, List.forall_mem_cons.mpr ⟨trivial, List.forall_mem_cons.mpr ⟨trivial, List.forall_mem_cons.mpr ⟨trivial, List.forall_mem_cons.mpr ⟨w_207 _, List.forall_mem_cons.mpr ⟨trivial, List.forall_mem_cons.mpr ⟨trivial, List.forall_mem_cons.mpr ⟨trivial, List.forall_mem_cons.mpr ⟨trivial, List.forall_mem_cons.mpr ⟨trivial, List.forall_mem_cons.mpr ⟨trivial, List.forall_mem_cons.mpr ⟨w_207 _, List.forall_mem_cons.mpr ⟨trivial, List.forall_mem_cons.mpr ⟨trivial, List.forall_mem_cons.mpr ⟨trivial, List.forall_mem_cons.mpr ⟨w_247 _, List.forall_mem_cons.mpr ⟨trivial, List.forall_mem_cons.mpr ⟨trivial, List.forall_mem_cons.mpr ⟨trivial, List.forall_mem_cons.mpr ⟨trivial, List.forall_mem_cons.mpr ⟨w_207 _, List.forall_mem_cons.mpr ⟨trivial, List.forall_mem_cons.mpr ⟨trivial, List.forall_mem_cons.mpr ⟨trivial, List.forall_mem_cons.mpr ⟨w_221 _, List.forall_mem_cons.mpr ⟨trivial, List.forall_mem_cons.mpr ⟨trivial, List.forall_mem_cons.mpr ⟨trivial, List.forall_mem_cons.mpr ⟨trivial, List.forall_mem_cons.mpr ⟨trivial, List.forall_mem_cons.mpr ⟨trivial, List.forall_mem_cons.mpr ⟨trivial, List.forall_mem_cons.mpr ⟨w_248 _, List.forall_mem_cons.mpr ⟨trivial, List.forall_mem_cons.mpr ⟨trivial, List.forall_mem_cons.mpr ⟨trivial, List.forall_mem_cons.mpr ⟨trivial, List.forall_mem_cons.mpr ⟨trivial, List.forall_mem_cons.mpr ⟨trivial, List.forall_mem_cons.mpr ⟨trivial, List.forall_mem_cons.mpr ⟨trivial, List.forall_mem_cons.mpr ⟨w_256 _, List.forall_mem_cons.mpr ⟨trivial, List.forall_mem_cons.mpr ⟨trivial, List.forall_mem_cons.mpr ⟨w_257 _, List.forall_mem_cons.mpr ⟨trivial, List.forall_mem_cons.mpr ⟨trivial, List.forall_mem_cons.mpr ⟨trivial, List.forall_mem_cons.mpr ⟨trivial, List.forall_mem_cons.mpr ⟨trivial, List.forall_mem_cons.mpr ⟨w_207 _, List.forall_mem_cons.mpr ⟨trivial, List.forall_mem_cons.mpr ⟨trivial, List.forall_mem_cons.mpr ⟨trivial, List.forall_mem_cons.mpr ⟨trivial, List.forall_mem_cons.mpr ⟨trivial, List.forall_mem_cons.mpr ⟨trivial, List.forall_mem_cons.mpr ⟨trivial, List.forall_mem_cons.mpr ⟨w_227 _, List.forall_mem_cons.mpr ⟨trivial, List.forall_mem_cons.mpr ⟨w_192 _, List.forall_mem_cons.mpr ⟨trivial, List.forall_mem_cons.mpr ⟨trivial, List.forall_mem_cons.mpr ⟨trivial, List.forall_mem_cons.mpr ⟨trivial, List.forall_mem_cons.mpr ⟨w_218 _, List.forall_mem_cons.mpr ⟨trivial, List.forall_mem_cons.mpr ⟨trivial, List.forall_mem_cons.mpr ⟨trivial, List.forall_mem_cons.mpr ⟨trivial, List.forall_mem_cons.mpr ⟨trivial, List.forall_mem_cons.mpr ⟨w_219 _, List.forall_mem_cons.mpr ⟨trivial, List.forall_mem_cons.mpr ⟨trivial, List.forall_mem_cons.mpr ⟨w_207 _, List.forall_mem_cons.mpr ⟨trivial, List.forall_mem_cons.mpr ⟨trivial, List.forall_mem_cons.mpr ⟨trivial, List.forall_mem_cons.mpr ⟨trivial, List.forall_mem_cons.mpr ⟨w_220 _, List.forall_mem_cons.mpr ⟨trivial, List.forall_mem_cons.mpr ⟨trivial, List.forall_mem_cons.mpr ⟨w_207 _, List.forall_mem_cons.mpr ⟨trivial, List.forall_mem_cons.mpr ⟨trivial, List.forall_mem_cons.mpr ⟨trivial, List.forall_mem_cons.mpr ⟨trivial, List.forall_mem_cons.mpr ⟨trivial, List.forall_mem_cons.mpr ⟨w_207 _, List.forall_mem_cons.mpr ⟨trivial, List.forall_mem_cons.mpr ⟨trivial, List.forall_mem_cons.mpr ⟨w_223 _, List.forall_mem_cons.mpr ⟨trivial, List.forall_mem_cons.mpr ⟨trivial, List.forall_mem_cons.mpr ⟨trivial, List.forall_mem_cons.mpr ⟨w_251 _, List.forall_mem_cons.mpr ⟨trivial, List.forall_mem_cons.mpr ⟨trivial, List.forall_mem_cons.mpr ⟨trivial, List.forall_mem_cons.mpr ⟨trivial, List.forall_mem_cons.mpr ⟨w_253 _, List.forall_mem_cons.mpr ⟨trivial, List.forall_mem_cons.mpr ⟨trivial, List.forall_mem_cons.mpr ⟨w_258 _, List.forall_mem_cons.mpr ⟨trivial, List.forall_mem_cons.mpr ⟨trivial, List.forall_mem_cons.mpr ⟨w_259 _, List.forall_mem_cons.mpr ⟨trivial, List.forall_mem_cons.mpr ⟨trivial, fun _ h => absurd h List.not_mem_nil⟩⟩⟩⟩⟩⟩⟩⟩⟩⟩⟩⟩⟩⟩⟩⟩⟩⟩⟩⟩⟩⟩⟩⟩⟩⟩⟩⟩⟩⟩⟩⟩⟩⟩⟩⟩⟩⟩⟩⟩⟩⟩⟩⟩⟩⟩⟩⟩⟩⟩⟩⟩⟩⟩⟩⟩⟩⟩⟩⟩⟩⟩⟩⟩⟩⟩⟩⟩⟩⟩⟩⟩⟩⟩⟩⟩⟩⟩⟩⟩⟩⟩⟩⟩⟩⟩⟩⟩⟩⟩⟩⟩⟩⟩⟩⟩⟩⟩⟩⟩⟩⟩⟩⟩⟩⟩⟩⟩⟩⟩⟩⟩⟩⟩⟩⟩⟩⟩⟩⟩⟩⟩⟩⟩⟩⟩⟩⟩⟩⟩⟩⟩⟩⟩⟩⟩⟩⟩⟩⟩⟩⟩⟩⟩⟩⟩⟩⟩⟩⟩⟩⟩⟩⟩⟩⟩⟩⟩⟩⟩⟩⟩⟩⟩⟩⟩⟩⟩⟩⟩⟩⟩⟩⟩⟩⟩⟩⟩⟩
theorem ok_X5_reload : ev_ok tbs t_X5_reload := ⟨rfl, by decide +kernel, fun q hq => ⟨List.all_eq_true.mp kb_X5_reload q hq, kw_X5_reload q hq⟩⟩
set_option maxRecDepth 100000 in
theorem kb_X5_page : t_X5_page.2.all (fun q => ev_okB t_X5_page.1.2.2.1 q.1 q.2) = true := by decide +kernel
set_option maxRecDepth 100000 in
set_option maxHeartbeats 4000000 in
theorem kw_X5_page : ∀ q ∈ t_X5_page.2, ev_okW tbs t_X5_page.1.1 t_X5_page.1.2.1.name q.2.2.2.1 q.2.2.2.2.1 q.2.2.2.2.2.1 q.2.2.2.2.2.2 q.2.1 := List.forall_mem_cons.mpr ⟨trivial, List.forall_mem_cons.mpr ⟨trivial, List.forall_mem_cons.mpr ⟨w_225 _, List.forall_mem_cons.mpr ⟨trivial, List.forall_mem_cons.mpr ⟨trivial, List.forall_mem_cons.mpr ⟨trivial, List.forall_mem_cons.mpr ⟨trivial, List.forall_mem_cons.mpr ⟨w_217 _, List.forall_mem_cons.mpr ⟨trivial, List.forall_mem_cons.mpr ⟨trivial, List.forall_mem_cons.mpr ⟨trivial, List.forall_mem_cons.mpr ⟨trivial, List.forall_mem_cons.mpr ⟨w_218 _, List.forall_mem_cons.mpr ⟨trivial, List.forall_mem_cons.mpr ⟨trivial, List.forall_mem_cons.mpr ⟨trivial, List.forall_mem_cons.mpr ⟨trivial, List.forall_mem_cons.mpr ⟨trivial, List.forall_mem_cons.mpr ⟨trivial, List.forall_mem_cons.mpr ⟨trivial, List.forall_mem_cons.mpr ⟨trivial, List.forall_mem_cons.mpr ⟨w_192 _, List.forall_mem_cons.mpr ⟨trivial, List.forall_mem_cons.mpr ⟨trivial, List.forall_mem_cons.mpr ⟨trivial, List.forall_mem_cons.mpr ⟨trivial, List.forall_mem_cons.mpr ⟨trivial, List.forall_mem_cons.mpr ⟨trivial, List.forall_mem_cons.mpr ⟨trivial, List.forall_mem_cons.mpr ⟨w_219 _, List.forall_mem_cons.mpr ⟨trivial, List.forall_mem_cons.mpr ⟨trivial, List.forall_mem_cons.mpr ⟨trivial, List.forall_mem_cons.mpr ⟨trivial, List.forall_mem_cons.mpr ⟨trivial, List.forall_mem_cons.mpr ⟨trivial, List.forall_mem_cons.mpr ⟨trivial, List.forall_mem_cons.mpr ⟨trivial, List.forall_mem_cons.mpr ⟨trivial, List.forall_mem_cons.mpr ⟨w_220 _, List.forall_mem_cons.mpr ⟨trivial, List.forall_mem_cons.mpr ⟨trivial, List.forall_mem_cons.mpr ⟨trivial, List.forall_mem_cons.mpr ⟨trivial, List.forall_mem_cons.mpr ⟨trivial, List.forall_mem_cons.mpr ⟨trivial, List.forall_mem_cons.mpr ⟨trivial, List.forall_mem_cons.mpr ⟨trivial, List.forall_mem_cons.mpr ⟨trivial, List.forall_mem_cons.mpr ⟨w_221 _, List.forall_mem_cons.mpr ⟨trivial, List.forall_mem_cons.mpr ⟨trivial, List.forall_mem_cons.mpr ⟨trivial, List.forall_mem_cons.mpr ⟨trivial, List.forall_mem_cons.mpr ⟨trivial, List.forall_mem_cons.mpr ⟨trivial, List.forall_mem_cons.mpr ⟨trivial, List.forall_mem_cons.mpr ⟨trivial, List.forall_mem_cons.mpr ⟨trivial, List.forall_mem_cons.mpr ⟨w_222 _, List.forall_mem_cons.mpr ⟨trivial, List.forall_mem_cons.mpr ⟨trivial, List.forall_mem_cons.mpr ⟨trivial, List.forall_mem_cons.mpr ⟨trivial, List.forall_mem_cons.mpr ⟨trivial, List.forall_mem_cons.mpr ⟨trivial, List.forall_mem_cons.mpr ⟨trivial, List.forall_mem_cons.mpr ⟨trivial, List.forall_mem_cons.mpr ⟨trivial, List.forall_mem_cons.mpr ⟨trivial, List.forall_mem_cons.mpr ⟨w_232 _, List.forall_mem_cons.mpr ⟨trivial, List.forall_mem_cons.mpr ⟨trivial, List.forall_mem_cons.mpr ⟨trivial, List.forall_mem_cons.mpr ⟨trivial, List.forall_mem_cons.mpr ⟨trivial, List.forall_mem_cons.mpr ⟨trivial, List.forall_mem_cons.mpr ⟨trivial, List.forall_mem_cons.mpr ⟨w_223 _, List.forall_mem_cons.mpr ⟨trivial, List.forall_mem_cons.mpr ⟨trivial, List.forall_mem_cons.mpr ⟨trivial, List.forall_mem_cons.mpr ⟨trivial, List.forall_mem_cons.mpr ⟨trivial, List.forall_mem_cons.mpr ⟨trivial, List.forall_mem_cons.mpr ⟨trivial, List.forall_mem_cons.mpr ⟨trivial, List.forall_mem_cons.mpr ⟨trivial, List.forall_mem_cons.mpr ⟨trivial, List.forall_mem_cons.mpr ⟨trivial, List.forall_mem_cons.mpr ⟨trivial, List.forall_mem_cons.mpr ⟨trivial, fun _ h => absurd h List.not_mem_nil⟩⟩⟩⟩⟩⟩⟩⟩⟩⟩⟩⟩⟩⟩⟩⟩⟩⟩⟩⟩⟩⟩⟩⟩⟩⟩⟩⟩⟩⟩⟩⟩⟩⟩⟩⟩⟩⟩⟩⟩⟩⟩⟩⟩⟩⟩⟩⟩⟩⟩⟩⟩⟩⟩⟩⟩⟩⟩⟩⟩⟩⟩⟩⟩⟩⟩⟩⟩⟩⟩⟩⟩⟩⟩⟩⟩⟩⟩⟩⟩⟩⟩⟩⟩⟩⟩⟩⟩⟩⟩⟩⟩
theorem ok_X5_page : ev_ok tbs t_X5_page := ⟨rfl, by decide +kernel, fun q hq => ⟨List.all_eq_true.mp kb_X5_page q hq, kw_X5_page q hq⟩⟩
set_option maxRecDepth 100000 in
theorem kb_X5_measure : t_X5_measure.2.all (fun q => ev_okB t_X5_measure.1.2.2.1 q.1 q.2) = true := by decide +kernel
set_option maxRecDepth 100000 in
set_option maxHeartbeats 4000000 in
theorem kw_X5_measure : ∀ q ∈ t_X5_measure.2, ev_okW tbs t_X5_measure.1.1 t_X5_measure.1.2.1.name q.2.2.2.1 q.2.2.2.2.1 q.2.2.2.2.2.1 q.2.2.2.2.2.2 q.2.1 := List.forall_mem_cons.mpr ⟨trivial, List.forall_mem_cons.mpr ⟨trivial, List.forall_mem_cons.mpr ⟨w_225 _, List.forall_mem_cons.mpr ⟨trivial, List.forall_mem_cons.mpr ⟨trivial, List.forall_mem_cons.mpr ⟨trivial, List.forall_mem_cons.mpr ⟨w_226 _, List.forall_mem_cons.mpr ⟨trivial, List.forall_mem_cons.mpr ⟨trivial, List.forall_mem_cons.mpr ⟨trivial, List.forall_mem_cons.mpr ⟨trivial, List.forall_mem_cons.mpr ⟨trivial, List.forall_mem_cons.mpr ⟨trivial, List.forall_mem_cons.mpr ⟨trivial, List.forall_mem_cons.mpr ⟨trivial, List.forall_mem_cons.mpr ⟨trivial, List.forall_mem_cons.mpr ⟨w_224 _, List.forall_mem_cons.mpr ⟨trivial, List.forall_mem_cons.mpr ⟨trivial, List.forall_mem_cons.mpr ⟨trivial, List.forall_mem_cons.mpr ⟨trivial, List.forall_mem_cons.mpr ⟨trivial, List.forall_mem_cons.mpr ⟨trivial, List.forall_mem_cons.mpr ⟨trivial, fun _ h => absurd h List.not_mem_nil⟩⟩⟩⟩⟩⟩⟩⟩⟩⟩⟩⟩⟩⟩⟩⟩⟩⟩⟩⟩⟩⟩⟩⟩
theorem ok_X5_measure : ev_ok tbs t_X5_measure := ⟨rfl, by decide +kernel, fun q hq => ⟨List.all_eq_true.mp kb_X5_measure q hq, kw_X5_measure q hq⟩⟩
set_option maxRecDepth 100000 in
theorem kb_X5_slot : t_X5_slot.2.all (fun q => ev_okB t_X5_slot.1.2.2.1 q.1 q.2) = true := by decide +kernel
set_option maxRecDepth 100000 in
set_option maxHeartbeats 4000000 in
theorem kw_X5_slot : ∀ q ∈ t_X5_slot.2, ev_okW tbs t_X5_slot.1.1 t_X5_slot.1.2.1.name q.2.2.2.1 q.2.2.2.2.1 q.2.2.2.2.2.1 q.2.2.2.2.2.2 q.2.1 := List.forall_mem_cons.mpr ⟨trivial, List.forall_mem_cons.mpr ⟨trivial, List.forall_mem_cons.mpr ⟨w_225 _, List.forall_mem_cons.mpr ⟨trivial, List.forall_mem_cons.mpr ⟨trivial, List.forall_mem_cons.mpr ⟨trivial, List.forall_mem_cons.mpr ⟨w_226 _, List.forall_mem_cons.mpr ⟨trivial, List.forall_mem_cons.mpr ⟨trivial, List.forall_mem_cons.mpr ⟨trivial, List.forall_mem_cons.mpr ⟨trivial, List.forall_mem_cons.mpr ⟨trivial, List.forall_mem_cons.mpr ⟨trivial, List.forall_mem_cons.mpr ⟨trivial, List.forall_mem_cons.mpr ⟨trivial, List.forall_mem_cons.mpr ⟨trivial, List.forall_mem_cons.mpr ⟨trivial, List.forall_mem_cons.mpr ⟨trivial, List.forall_mem_cons.mpr ⟨w_248 _, List.forall_mem_cons.mpr ⟨trivial, fun _ h => absurd h List.not_mem_nil⟩⟩⟩⟩⟩⟩⟩⟩⟩⟩⟩⟩⟩⟩⟩⟩⟩⟩⟩⟩
theorem ok_X5_slot : ev_ok tbs t_X5_slot := ⟨rfl, by decide +kernel, fun q hq => ⟨List.all_eq_true.mp kb_X5_slot q hq, kw_X5_slot q hq⟩⟩
set_option maxRecDepth 100000 in
theorem kb_X5_count : t_X5_count.2.all (fun q => ev_okB t_X5_count.1.2.2.1 q.1 q.2) = true := by decide +kernel
set_option maxRecDepth 100000 in
set_option maxHeartbeats 4000000 in
theorem kw_X5_count : ∀ q ∈ t_X5_count.2, ev_okW tbs t_X5_count.1.1 t_X5_count.1.2.1.name q.2.2.2.1 q.2.2.2.2.1 q.2.2.2.2.2.1 q.2.2.2.2.2.2 q.2.1 := List.forall_mem_cons.mpr ⟨trivial, List.forall_mem_cons.mpr ⟨trivial, List.forall_mem_cons.mpr ⟨w_225 _, List.forall_mem_cons.mpr ⟨trivial, List.forall_mem_cons.mpr ⟨trivial, List.forall_mem_cons.mpr ⟨trivial, List.forall_mem_cons.mpr ⟨w_217 _, List.forall_mem_cons.mpr ⟨trivial, List.forall_mem_cons.mpr ⟨trivial, List.forall_mem_cons.mpr ⟨trivial, List.forall_mem_cons.mpr ⟨trivial, List.forall_mem_cons.mpr ⟨trivial, List.forall_mem_cons.mpr ⟨trivial, List.forall_mem_cons.mpr ⟨trivial, List.forall_mem_cons.mpr ⟨trivial, List.forall_mem_cons.mpr ⟨trivial, List.forall_mem_cons.mpr ⟨trivial, List.forall_mem_cons.mpr ⟨trivial, List.forall_mem_cons.mpr ⟨trivial, List.forall_mem_cons.mpr ⟨w_217 _, List.forall_mem_cons.mpr ⟨trivial, List.forall_mem_cons.mpr ⟨trivial, List.forall_mem_cons.mpr ⟨trivial, List.forall_mem_cons.mpr ⟨w_218 _, List.forall_mem_cons.mpr ⟨trivial, List.forall_mem_cons.mpr ⟨trivial, List.forall_mem_cons.mpr ⟨trivial, List.forall_mem_cons.mpr ⟨trivial, List.forall_mem_cons.mpr ⟨trivial, List.forall_mem_cons.mpr ⟨trivial, List.forall_mem_cons.mpr ⟨trivial, List.forall_mem_cons.mpr ⟨trivial, List.forall_mem_cons.mpr ⟨trivial, List.forall_mem_cons.mpr ⟨trivial, List.forall_mem_cons.mpr ⟨trivial, List.forall_mem_cons.mpr ⟨trivial, List.forall_mem_cons.mpr ⟨trivial, List.forall_mem_cons.mpr ⟨trivial, List.forall_mem_cons.mpr ⟨trivial, List.forall_mem_cons.mpr ⟨trivial, List.forall_mem_cons.mpr ⟨trivial, List.forall_mem_cons.mpr ⟨trivial, List.forall_mem_cons.mpr ⟨trivial, List.forall_mem_cons.mpr ⟨w_249 _, List.forall_mem_cons.mpr ⟨trivial, List.forall_mem_cons.mpr ⟨trivial, List.forall_mem_cons.mpr ⟨trivial, List.forall_mem_cons.mpr ⟨trivial, List.forall_mem_cons.mpr ⟨trivial, List.forall_mem_cons.mpr ⟨trivial, List.forall_mem_cons.mpr ⟨w_258 _, List.forall_mem_cons.mpr ⟨trivial, List.forall_mem_cons.mpr ⟨trivial, List.forall_mem_cons.mpr ⟨trivial, List.forall_mem_cons.mpr ⟨trivial, List.forall_mem_cons.mpr ⟨trivial, List.forall_mem_cons.mpr ⟨w_254 _, List.forall_mem_cons.mpr ⟨trivial, List.forall_mem_cons.mpr ⟨trivial, List.forall_mem_cons.mpr ⟨trivial, List.forall_mem_cons.mpr ⟨trivial, List.forall_mem_cons.mpr ⟨trivial, List.forall_mem_cons.mpr ⟨w_256 _, List.forall_mem_cons.mpr ⟨trivial, List.forall_mem_cons.mpr ⟨trivial, List.forall_mem_cons.mpr ⟨trivial, List.forall_mem_cons.mpr ⟨trivial, List.forall_mem_cons.mpr ⟨trivial, List.forall_mem_cons.mpr ⟨w_228 _, List.forall_mem_cons.mpr ⟨trivial, List.forall_mem_cons.mpr ⟨trivial, List.forall_mem_cons.mpr ⟨trivial, fun _ h => absurd h List.not_mem_nil⟩⟩⟩⟩⟩⟩⟩⟩⟩⟩⟩⟩⟩⟩⟩⟩⟩⟩⟩⟩⟩⟩⟩⟩⟩⟩⟩⟩⟩⟩⟩⟩⟩⟩⟩⟩⟩⟩⟩⟩⟩⟩⟩⟩⟩⟩⟩⟩⟩⟩⟩⟩⟩⟩⟩⟩⟩⟩⟩⟩⟩⟩⟩⟩⟩⟩⟩⟩⟩⟩⟩⟩
theorem ok_X5_count : ev_ok tbs t_X5_count := ⟨rfl, by decide +kernel, fun q hq => ⟨List.all_eq_true.mp kb_X5_count q hq, kw_X5_count q hq⟩⟩
end
section
set_option maxRecDepth 100000 in
theorem kb_L_cell : t_L_cell.2.all (fun q => ev_okB t_L_cell.1.2.2.1 q.1 q.2) = true := by decide +kernel
set_option maxRecDepth 100000 in
set_option maxHeartbeats 4000000 in
theorem kw_L_cell : ∀ q ∈ t_L_cell.2, ev_okW tbs t_L_cell.1.1 t_L_cell.1.2.1.name q.2.2.2.1 q.2.2.2.2.1 q.2.2.2.2.2.1 q.2.2.2.2.2.2 q.2.1 := List.forall_mem_cons.mpr ⟨trivial, List.forall_mem_cons.mpr ⟨trivial, List.forall_mem_cons.mpr ⟨trivial, List.forall_mem_cons.mpr ⟨trivial, List.forall_mem_cons.mpr ⟨trivial, List.forall_mem_cons.mpr ⟨trivial, List.forall_mem_cons.mpr ⟨trivial, List.forall_mem_cons.mpr ⟨trivial, List.forall_mem_cons.mpr ⟨trivial, List.forall_mem_cons.mpr ⟨trivial, fun _ h => absurd h List.not_mem_nil⟩⟩⟩⟩⟩⟩⟩⟩⟩⟩
theorem ok_L_cell : ev_ok tbs t_L_cell := ⟨rfl, by decide +kernel, fun q hq => ⟨List.all_eq_true.mp kb_L_cell q hq, kw_L_cell q hq⟩⟩
end
section
set_option maxRecDepth 100000 in
theorem kb_L_0 : ((t_L_law.2.drop 0).take 60).all (fun q => ev_okB cL_law q.1 q.2) = true := by decide +kernel
end
section
set_option maxRecDepth 100000 in
theorem kb_L_1 : ((t_L_law.2.drop 60).take 60).all (fun q => ev_okB cL_law q.1 q.2) = true := by decide +kernel
end
section
set_option maxRecDepth 100000 in
theorem kb_L_2 : ((t_L_law.2.drop 120).take 60).all (fun q => ev_okB cL_law q.1 q.2) = true := by decide +kernel
end
section
set_option maxRecDepth 100000 in
theorem kb_L_3 : ((t_L_law.2.drop 180).take 60).all (fun q => ev_okB cL_law q.1 q.2) = true := by decide +kernel
end
section
set_option maxRecDepth 100000 in
theorem kb_L_4 : ((t_L_law.2.drop 240).take 60).all (fun q => ev_okB cL_law q.1 q.2) = true := by decide +kernel
end
section
set_option maxRecDepth 100000 in
theorem kb_L_5 : ((t_L_law.2.drop 300).take 60).all (fun q => ev_okB cL_law q.1 q.2) = true := by decide +kernel
end
section
set_option maxRecDepth 100000 in
theorem kb_L_6 : ((t_L_law.2.drop 360).take 60).all (fun q => ev_okB cL_law q.1 q.2) = true := by decide +kernel
end
section
set_option maxRecDepth 100000 in
theorem kb_L_7 : ((t_L_law.2.drop 420).take 60).all (fun q => ev_okB cL_law q.1 q.2) = true := by decide +kernel
end
section
set_option maxRecDepth 100000 in
theorem kb_L_8 : ((t_L_law.2.drop 480).take 60).all (fun q => ev_okB cL_law q.1 q.2) = true := by decide +kernel
end
section
set_option maxRecDepth 100000 in
theorem kb_L_9 : ((t_L_law.2.drop 540).take 60).all (fun q => ev_okB cL_law q.1 q.2) = true := by decide +kernel
end
section
theorem all_chunk {α : Type} (l : List α) (f : α → Bool) (n : Nat) (h1 : (l.take n).all f = true) (h2 : (l.drop n).all f = true) : l.all f = true := by rw [← List.take_append_drop n l, List.all_append, h1, h2]; rfl
theorem kz_L_10 : (t_L_law.2.drop 600).all (fun q => ev_okB cL_law q.1 q.2) = true := by decide +kernel
theorem kz_L_9 : (t_L_law.2.drop 540).all (fun q => ev_okB cL_law q.1 q.2) = true := all_chunk _ _ 60 kb_L_9 (by rw [List.drop_drop]; exact kz_L_10)
theorem kz_L_8 : (t_L_law.2.drop 480).all (fun q => ev_okB cL_law q.1 q.2) = true := all_chunk _ _ 60 kb_L_8 (by rw [List.drop_drop]; exact kz_L_9)
theorem kz_L_7 : (t_L_law.2.drop 420).all (fun q => ev_okB cL_law q.1 q.2) = true := all_chunk _ _ 60 kb_L_7 (by rw [List.drop_drop]; exact kz_L_8)
theorem kz_L_6 : (t_L_law.2.drop 360).all (fun q => ev_okB cL_law q.1 q.2) = true := all_chunk _ _ 60 kb_L_6 (by rw [List.drop_drop]; exact kz_L_7)
theorem kz_L_5 : (t_L_law.2.drop 300).all (fun q => ev_okB cL_law q.1 q.2) = true := all_chunk _ _ 60 kb_L_5 (by rw [List.drop_drop]; exact kz_L_6)
theorem kz_L_4 : (t_L_law.2.drop 240).all (fun q => ev_okB cL_law q.1 q.2) = true := all_chunk _ _ 60 kb_L_4 (by rw [List.drop_drop]; exact kz_L_5)
theorem kz_L_3 : (t_L_law.2.drop 180).all (fun q => ev_okB cL_law q.1 q.2) = true := all_chunk _ _ 60 kb_L_3 (by rw [List.drop_drop]; exact kz_L_4)
theorem kz_L_2 : (t_L_law.2.drop 120).all (fun q => ev_okB cL_law q.1 q.2) = true := all_chunk _ _ 60 kb_L_2 (by rw [List.drop_drop]; exact kz_L_3)
theorem kz_L_1 : (t_L_law.2.drop 60).all (fun q => ev_okB cL_law q.1 q.2) = true := all_chunk _ _ 60 kb_L_1 (by rw [List.drop_drop]; exact kz_L_2)
theorem kz_L_0 : (t_L_law.2.drop 0).all (fun q => ev_okB cL_law q.1 q.2) = true := all_chunk _ _ 60 kb_L_0 (by rw [List.drop_drop]; exact kz_L_1)
theorem kb_L_law : t_L_law.2.all (fun q => ev_okB t_L_law.1.2.2.1 q.1 q.2) = true := kz_L_0
set_option maxRecDepth 100000 in
set_option maxHeartbeats 4000000 in
theorem kw_L_law : ∀ q ∈ t_L_law.2, ev_okW tbs t_L_law.1.1 t_L_law.1.2.1.name q.2.2.2.1 q.2.2.2.2.1 q.2.2.2.2.2.1 q.2.2.2.2.2.2 q.2.1 := List.forall_mem_cons.mpr ⟨w_260 _, List.forall_mem_cons.mpr ⟨trivial, List.forall_mem_cons.mpr ⟨trivial, List.forall_mem_cons.mpr ⟨trivial, List.forall_mem_cons.mpr ⟨w_261 _, List.forall_mem_cons.mpr ⟨trivial, List.forall_mem_cons.mpr ⟨trivial, List.forall_mem_cons.mpr ⟨w_261 _, List.forall_mem_cons.mpr ⟨trivial, List.forall_mem_cons.mpr ⟨w_262 _, List.forall_mem_cons.mpr ⟨trivial, List.forall_mem_cons.mpr ⟨w_263 _, List.forall_mem_cons.mpr ⟨trivial, List.forall_mem_cons.mpr ⟨trivial, List.forall_mem_cons.mpr ⟨trivial, List.forall_mem_cons.mpr ⟨w_261 _, List.forall_mem_cons.mpr ⟨trivial, List.forall_mem_cons.mpr ⟨trivial, List.forall_mem_cons.mpr ⟨w_261 _, List.forall_mem_cons.mpr ⟨trivial, List.forall_mem_cons.mpr ⟨w_264 _, List.forall_mem_cons.mpr ⟨trivial, List.forall_mem_cons.mpr ⟨trivial, List.forall_mem_cons.mpr ⟨trivial, List.forall_mem_cons.mpr ⟨trivial, List.forall_mem_cons.mpr ⟨trivial, List.forall_mem_cons.mpr ⟨trivial, List.forall_mem_cons.mpr ⟨trivial, List.forall_mem_cons.mpr ⟨trivial, List.forall_mem_cons.mpr ⟨trivial, List.forall_mem_cons.mpr ⟨trivial, List.forall_mem_cons.mpr ⟨trivial, List.forall_mem_cons.mpr ⟨trivial, List.forall_mem_cons.mpr ⟨trivial, List.forall_mem_cons.mpr ⟨trivial, List.forall_mem_cons.mpr ⟨trivial, List.forall_mem_cons.mpr ⟨trivial, List.forall_mem_cons.mpr ⟨trivial, List.forall_mem_cons.mpr ⟨trivial, List.forall_mem_cons.mpr ⟨trivial, List.forall_mem_cons.mpr ⟨trivial, List.forall_mem_cons.mpr ⟨trivial, List.forall_mem_cons.mpr ⟨trivial, List.forall_mem_cons.mpr ⟨trivial, List.forall_mem_cons.mpr ⟨trivial, List.forall_mem_cons.mpr ⟨trivial, List.forall_mem_cons.mpr ⟨trivial, List.forall_mem_cons.mpr ⟨trivial, List.forall_mem_cons.mpr ⟨trivial, List.forall_mem_cons.mpr ⟨trivial, List.forall_mem_cons.mpr ⟨trivial, List.forall_mem_cons.mpr ⟨trivial, List.forall_mem_cons.mpr ⟨trivial, List.forall_mem_cons.mpr ⟨trivial, List.forall_mem_cons.mpr ⟨trivial, List.forall_mem_cons.mpr ⟨trivial, List.forall_mem_cons.mpr ⟨trivial, List.forall_mem_cons.mpr ⟨trivial, List.forall_mem_cons.mpr ⟨trivial, List.forall_mem_cons.mpr ⟨trivial, List.forall_mem_cons.mpr ⟨trivial, List.forall_mem_cons.mpr ⟨trivial, List.forall_mem_cons.mpr ⟨w_265 _, List.forall_mem_cons.mpr ⟨trivial, List.forall_mem_cons.mpr ⟨w_266 _, List.forall_mem_cons.mpr ⟨trivial, List.forall_mem_cons.mpr ⟨trivial, List.forall_mem_cons.mpr ⟨trivial, List.forall_mem_cons.mpr ⟨trivial, List.forall_mem_cons.mpr ⟨trivial, List.forall_mem_cons.mpr ⟨trivial, List.forall_mem_cons.mpr ⟨trivial, List.forall_mem_cons.mpr ⟨trivial, List.forall_mem_cons.mpr ⟨trivial, List.forall_mem_cons.mpr ⟨trivial, List.forall_mem_cons.mpr ⟨trivial, List.forall_mem_cons.mpr ⟨trivial, List.forall_mem_cons.mpr ⟨trivial, List.forall_mem_cons.mpr ⟨trivial, List.forall_mem_cons.mpr ⟨trivial, List.forall_mem_cons.mpr ⟨trivial, List.forall_mem_cons.mpr ⟨trivial, List.forall_mem_cons.mpr ⟨trivial, List.forall_mem_cons.mpr ⟨trivial, List.forall_mem_cons.mpr ⟨w_267 _, List.forall_mem_cons.mpr ⟨trivial, List.forall_mem_cons.mpr ⟨trivial, List.forall_mem_cons.mpr ⟨w_266 _, List.forall_mem_cons.mpr ⟨trivial, List.forall_mem_cons.mpr ⟨trivial, List.forall_mem_cons.mpr ⟨trivial, List.forall_mem_cons.mpr ⟨trivial, List.forall_mem_cons.mpr ⟨trivial, List.forall_mem_cons.mpr ⟨trivial, List.forall_mem_cons.mpr ⟨trivial, List.forall_mem_cons.mpr ⟨trivial, List.forall_mem_cons.mpr ⟨trivial, List.forall_mem_cons.mpr ⟨trivial, List.forall_mem_cons.mpr ⟨trivial, List.forall_mem_cons.mpr ⟨trivial, List.forall_mem_cons.mpr ⟨trivial, List.forall_mem_cons.mpr ⟨trivial, List.forall_mem_cons.mpr ⟨trivial, List.forall_mem_cons.mpr ⟨trivial, List.forall_mem_cons.mpr ⟨trivial, List.forall_mem_cons.mpr ⟨trivial, List.forall_mem_cons.mpr ⟨trivial, List.forall_mem_cons.mpr ⟨trivial, List.forall_mem_cons.mpr ⟨trivial, List.forall_mem_cons.mpr ⟨trivial, List.forall_mem_cons.mpr ⟨w_268 _, List.forall_mem_cons.mpr ⟨trivial, List.forall_mem_cons.mpr ⟨trivial, List.forall_mem_cons.mpr ⟨trivial, List.forall_mem_cons.mpr ⟨trivial, List.forall_mem_cons.mpr ⟨trivial, List.forall_mem_cons.mpr ⟨trivial, List.forall_mem_cons.mpr ⟨w_269 _, List.forall_mem_cons.mpr ⟨trivial, List.forall_mem_cons.mpr ⟨trivial, List.forall_mem_cons.mpr ⟨trivial, List.forall_mem_cons.mpr ⟨trivial, List.forall_mem_cons.mpr ⟨trivial, List.forall_mem_cons.mpr ⟨trivial, List.forall_mem_cons.mpr ⟨trivial, List.forall_mem_cons.mpr ⟨trivial, List.forall_mem_cons.mpr ⟨trivial, List.forall_mem_cons.mpr ⟨trivial, List.forall_mem_cons.mpr ⟨trivial, List.forall_mem_cons.mpr ⟨trivial, List.forall_mem_cons.mpr ⟨trivial, List.forall_mem_cons.mpr ⟨trivial, List.forall_mem_cons.mpr ⟨trivial, List.forall_mem_cons.mpr ⟨trivial, List.forall_mem_cons.mpr ⟨trivial, List.forall_mem_cons.mpr ⟨trivial, List.forall_mem_cons.mpr ⟨trivial, List.forall_mem_cons.mpr ⟨w_270 _, List.forall_mem_cons.mpr ⟨trivial, List.forall_mem_cons.mpr ⟨trivial, List.forall_mem_cons.mpr ⟨trivial, List.forall_mem_cons.mpr ⟨trivial, List.forall_mem_cons.mpr ⟨trivial, List.forall_mem_cons.mpr ⟨trivial, List.forall_mem_cons.mpr ⟨trivial, List.forall_mem_cons.mpr ⟨trivial, List.forall_mem_cons.mpr ⟨trivial, List.forall_mem_cons.mpr ⟨trivial, List.forall_mem_cons.mpr ⟨trivial, List.forall_mem_cons.mpr ⟨trivial, List.forall_mem_cons.mpr ⟨trivial, List.forall_mem_cons.mpr ⟨trivial, List.forall_mem_cons.mpr ⟨trivial, List.forall_mem_cons.mpr ⟨trivial, List.forall_mem_cons.mpr ⟨w_271 _, List.forall_mem_cons.mpr ⟨trivial, List.forall_mem_cons.mpr ⟨trivial, List.forall_mem_cons.mpr ⟨trivial, List.forall_mem_cons.mpr ⟨trivial, List.forall_mem_cons.mpr ⟨trivial, List.forall_mem_cons.mpr ⟨trivial, List.forall_mem_cons.mpr ⟨trivial, List.forall_mem_cons.mpr ⟨trivial, List.forall_mem_cons.mpr ⟨trivial, List.forall_mem_cons.mpr ⟨trivial, List.forall_mem_cons.mpr ⟨trivial, List.forall_mem_cons.mpr ⟨trivial, List.forall_mem_cons.mpr ⟨trivial, List.forall_mem_cons.mpr ⟨trivial, List.forall_mem_cons.mpr ⟨trivial, List.forall_mem_cons.mpr ⟨trivial, List.forall_mem_cons.mpr ⟨trivial, List.forall_mem_cons.mpr ⟨trivial, List.forall_mem_cons.mpr ⟨trivial, List.forall_mem_cons.mpr ⟨trivial, List.forall_mem_cons.mpr ⟨trivial, List.forall_mem_cons.mpr ⟨trivial, List.forall_mem_cons.mpr ⟨trivial, List.forall_mem_cons.mpr ⟨trivial, List.forall_mem_cons.mpr ⟨w_272 _, List.forall_mem_cons.mpr ⟨trivial, List.forall_mem_cons.mpr ⟨trivial, List.forall_mem_cons.mpr ⟨trivial, List.forall_mem_cons.mpr ⟨trivial, List.forall_mem_cons.mpr ⟨trivial, List.forall_mem_cons.mpr ⟨trivial, List.forall_mem_cons.mpr ⟨trivial, List.forall_mem_cons.mpr ⟨trivial, List.forall_mem_cons.mpr ⟨trivial, List.forall_mem_cons.mpr ⟨trivial, List.forall_mem_cons.mpr ⟨trivial, List.forall_mem_cons.mpr ⟨trivial, List.forall_mem_cons.mpr ⟨trivial, List.forall_mem_cons.mpr ⟨trivial, List.forall_mem_cons.mpr ⟨trivial, List.forall_mem_cons.mpr ⟨trivial, List.forall_mem_cons.mpr ⟨trivial, List.forall_mem_cons.mpr ⟨trivial, List.forall_mem_cons.mpr ⟨trivial, List.forall_mem_cons.mpr ⟨trivial, List.forall_mem_cons.mpr ⟨trivial, List.forall_mem_cons.mpr ⟨w_273 _, List.forall_mem_cons.mpr ⟨trivial, List.forall_mem_cons.mpr ⟨trivial, List.forall_mem_cons.mpr ⟨trivial, List.forall_mem_cons.mpr ⟨trivial, List.forall_mem_cons.mpr ⟨trivial, List.forall_mem_cons.mpr ⟨trivial, List.forall_mem_cons.mpr ⟨trivial, List.forall_mem_cons.mpr ⟨trivial, List.forall_mem_cons.mpr ⟨trivial, List.forall_mem_cons.mpr ⟨w_274 _, List.forall_mem_cons.mpr ⟨trivial, List.forall_mem_cons.mpr ⟨trivial, List.forall_mem_cons.mpr ⟨trivial, List.forall_mem_cons.mpr ⟨trivial, List.forall_mem_cons.mpr ⟨trivial, List.forall_mem_cons.mpr ⟨trivial, List.forall_mem_cons.mpr ⟨w_275 _, List.forall_mem_cons.mpr ⟨trivial, List.forall_mem_cons.mpr ⟨trivial, List.forall_mem_cons.mpr ⟨trivial, List.forall_mem_cons.mpr ⟨trivial, List.forall_mem_cons.mpr ⟨trivial, List.forall_mem_cons.mpr ⟨trivial, List.forall_mem_cons.mpr ⟨trivial, List.forall_mem_cons.mpr ⟨trivial, List.forall_mem_cons.mpr ⟨trivial, List.forall_mem_cons.mpr ⟨w_276 _, List.forall_mem_cons.mpr ⟨trivial, List.forall_mem_cons.mpr ⟨trivial, List.forall_mem_cons.mpr ⟨trivial, List.forall_mem_cons.mpr ⟨trivial, List.forall_mem_cons.mpr ⟨trivial, List.forall_mem_cons.mpr ⟨trivial, List.forall_mem_cons.mpr ⟨w_277 _, List.forall_mem_cons.mpr ⟨trivial, List.forall_mem_cons.mpr ⟨trivial, List.forall_mem_cons.mpr ⟨trivial, List.forall_mem_cons.mpr ⟨trivial, List.forall_mem_cons.mpr ⟨trivial, List.forall_mem_cons.mpr ⟨trivial, List.forall_mem_cons.mpr ⟨trivial, List.forall_mem_cons.mpr ⟨trivial, List.forall_mem_cons.mpr ⟨trivial, List.forall_mem_cons.mpr ⟨w_278 _, List.forall_mem_cons.mpr ⟨trivial, List.forall_mem_cons.mpr ⟨trivial, List.forall_mem_cons.mpr ⟨trivial, List.forall_mem_cons.mpr ⟨trivial, List.forall_mem_cons.mpr ⟨trivial, List.forall_mem_cons.mpr ⟨trivial, List.forall_mem_cons.mpr ⟨w_279 _, List.forall_mem_cons.mpr ⟨trivial, List.forall_mem_cons.mpr ⟨trivial, List.forall_mem_cons.mpr ⟨trivial, List.forall_mem_cons.mpr ⟨trivial, List.forall_mem_cons.mpr ⟨trivial, List.forall_mem_cons.mpr ⟨trivial, List.forall_mem_cons.mpr ⟨trivial, List.forall_mem_cons.mpr ⟨trivial, List.forall_mem_cons.mpr ⟨trivial, List.forall_mem_cons.mpr ⟨w_280 _, List.forall_mem_cons.mpr ⟨trivial, List.forall_mem_cons.mpr ⟨trivial, List.forall_mem_cons.mpr ⟨trivial, List.forall_mem_cons.mpr ⟨trivial, List.forall_mem_cons.mpr ⟨trivial, List.forall_mem_cons.mpr ⟨trivial, List.forall_mem_cons.mpr ⟨w_281 _, List.forall_mem_cons.mpr ⟨trivial, List.forall_mem_cons.mpr ⟨trivial, List.forall_mem_cons.mpr ⟨trivial, List.forall_mem_cons.mpr ⟨trivial, List.forall_mem_cons.mpr ⟨trivial, List.forall_mem_cons.mpr ⟨trivial, List.forall_mem_cons.mpr ⟨trivial, List.forall_mem_cons.mpr ⟨trivial, List.forall_mem_cons.mpr ⟨trivial, List.forall_mem_cons.mpr ⟨trivial, List.forall_mem_cons.mpr ⟨trivial, List.forall_mem_cons.mpr ⟨trivial, List.forall_mem_cons.mpr ⟨trivial, List.forall_mem_cons.mpr ⟨trivial, List.forall_mem_cons.mpr ⟨trivial, List.forall_mem_cons.mpr ⟨trivial, List.forall_mem_cons.mpr ⟨trivial, List.forall_mem_cons.mpr ⟨trivial, List.forall_mem_cons.mpr ⟨trivial, List.forall_mem_cons.mpr ⟨trivial, List.forall_mem_cons.mpr ⟨trivial, List.forall_mem_cons.mpr ⟨trivial, List.forall_mem_cons.mpr ⟨trivial, List.forall_mem_cons.mpr ⟨trivial, List.forall_mem_cons.mpr ⟨w_282 _, List.forall_mem_cons.mpr ⟨trivial, List.forall_mem_cons.mpr ⟨trivial, List.forall_mem_cons.mpr ⟨trivial, List.forall_mem_cons.mpr ⟨trivial, List.forall_mem_cons.mpr ⟨trivial, List.forall_mem_cons.mpr ⟨trivial, List.forall_mem_cons.mpr ⟨trivial, List.forall_mem_cons.mpr ⟨trivial, List.forall_mem_cons.mpr ⟨trivial, List.forall_mem_cons.mpr ⟨trivial, List.forall_mem_cons.mpr ⟨trivial, List.forall_mem_cons.mpr ⟨trivial, List.forall_mem_cons.mpr ⟨trivial, List.forall_mem_cons.mpr ⟨trivial, List.forall_mem_cons.mpr ⟨trivial, List.forall_mem_cons.mpr ⟨trivial, List.forall_mem_cons.mpr ⟨trivial, List.forall_mem_cons.mpr ⟨trivial, List.forall_mem_cons.mpr ⟨trivial, List.forall_mem_cons.mpr ⟨trivial, List.forall_mem_cons.mpr ⟨trivial, List.forall_mem_cons.mpr ⟨w_283 _, List.forall_mem_cons.mpr ⟨trivial, List.forall_mem_cons.mpr ⟨trivial, List.forall_mem_cons.mpr ⟨trivial, List.forall_mem_cons.mpr ⟨trivial, List.forall_mem_cons.mpr ⟨trivial, List.forall_mem_cons.mpr ⟨trivial, List.forall_mem_cons.mpr ⟨trivial, List.forall_mem_cons.mpr ⟨trivial, List.forall_mem_cons.mpr ⟨trivial, List.forall_mem_cons.mpr ⟨trivial, List.forall_mem_cons.mpr ⟨trivial, List.forall_mem_cons.mpr ⟨trivial, List.forall_mem_cons.mpr ⟨trivial, List.forall_mem_cons.mpr ⟨trivial, List.forall_mem_cons.mpr ⟨w_284 _, List.forall_mem_cons.mpr ⟨trivial, List.forall_mem_cons.mpr ⟨trivial, List.forall_mem_cons.mpr ⟨trivial, List.forall_mem_cons.mpr ⟨trivial, List.forall_mem_cons.mpr ⟨trivial, List.forall_mem_cons.mpr ⟨trivial, List.forall_mem_cons.mpr ⟨trivial, List.forall_mem_cons.mpr ⟨trivial, List.forall_mem_cons.mpr ⟨trivial, List.forall_mem_cons.mpr ⟨trivial, List.forall_mem_cons.mpr ⟨trivial, List.forall_mem_cons.mpr ⟨w_285 _, List.forall_mem_cons.mpr ⟨trivial, List.forall_mem_cons.mpr ⟨trivial, List.forall_mem_cons.mpr ⟨trivial, List.forall_mem_cons.mpr ⟨trivial, List.forall_mem_cons.mpr ⟨trivial, List.forall_mem_cons.mpr ⟨trivial, List.forall_mem_cons.mpr ⟨trivial, List.forall_mem_cons.mpr ⟨trivial, List.forall_mem_cons.mpr ⟨trivial, List.forall_mem_cons.mpr ⟨w_286 _, List.forall_mem_cons.mpr ⟨trivial, List.forall_mem_cons.mpr ⟨trivial, List.forall_mem_cons.mpr ⟨trivial, List.forall_mem_cons.mpr ⟨trivial, List.forall_mem_cons.mpr ⟨trivial, List.forall_mem_cons.mpr ⟨trivial, List.forall_mem_cons.mpr ⟨w_287 _, List.forall_mem_cons.mpr ⟨trivial, List.forall_mem_cons.mpr ⟨trivial, List.forall_mem_cons.mpr ⟨trivial, List.forall_mem_cons.mpr ⟨trivial, List.forall_mem_cons.mpr ⟨trivial, List.forall_mem_cons.mpr ⟨trivial, List.forall_mem_cons.mpr ⟨trivial, List.forall_mem_cons.mpr ⟨trivial, List.forall_mem_cons.mpr ⟨trivial, List.forall_mem_cons.mpr ⟨trivial, List.forall_mem_cons.mpr ⟨trivial, List.forall_mem_cons.mpr ⟨trivial, List.forall_mem_cons.mpr ⟨trivial, List.forall_mem_cons.mpr ⟨trivial, List.forall_mem_cons.mpr ⟨trivial, List.forall_mem_cons.mpr ⟨trivial, List.forall_mem_cons.mpr ⟨trivial, List.forall_mem_cons.mpr ⟨trivial, List.forall_mem_cons.mpr ⟨trivial, List.forall_mem_cons.mpr ⟨w_288 _, List.forall_mem_cons.mpr ⟨trivial, List.forall_mem_cons.mpr ⟨trivial, List.forall_mem_cons.mpr ⟨trivial, List.forall_mem_cons.mpr ⟨trivial, List.forall_mem_cons.mpr ⟨trivial, List.forall_mem_cons.mpr ⟨trivial, List.forall_mem_cons.mpr ⟨trivial, List.forall_mem_cons.mpr ⟨trivial, List.forall_mem_cons.mpr ⟨trivial, List.forall_mem_cons.mpr ⟨trivial, List.forall_mem_cons.mpr ⟨trivial, List.forall_mem_cons.mpr ⟨trivial, List.forall_mem_cons.mpr ⟨trivial, List.forall_mem_cons.mpr ⟨trivial, List.forall_mem_cons.mpr ⟨trivial, List.forall_mem_cons.mpr ⟨trivial, List.forall_mem_cons.mpr ⟨w_289 _, List.forall_mem_cons.mpr ⟨trivial, List.forall_mem_cons.mpr ⟨trivial, List.forall_mem_cons.mpr ⟨trivial, List.forall_mem_cons.mpr ⟨trivial, List.forall_mem_cons.mpr ⟨trivial, List.forall_mem_cons.mpr ⟨trivial, List.forall_mem_cons.mpr ⟨trivial, List.forall_mem_cons.mpr ⟨trivial, List.forall_mem_cons.mpr ⟨trivial, List.forall_mem_cons.mpr ⟨trivial, List.forall_mem_cons.mpr ⟨trivial, List.forall_mem_cons.mpr ⟨trivial, List.forall_mem_cons.mpr ⟨trivial, List.forall_mem_cons.mpr ⟨trivial, List.forall_mem_cons.mpr ⟨trivial, List.forall_mem_cons.mpr ⟨trivial, List.forall_mem_cons.mpr ⟨trivial, List.forall_mem_cons.mpr ⟨trivial, List.forall_mem_cons.mpr ⟨trivial, List.forall_mem_cons.mpr ⟨trivial, List.forall_mem_cons.mpr ⟨trivial, List.forall_mem_cons.mpr ⟨trivial, List.forall_mem_cons.mpr ⟨trivial, List.forall_mem_cons.mpr ⟨trivial, List.forall_mem_cons.mpr ⟨w_290 _, List.forall_mem_cons.mpr ⟨trivial, List.forall_mem_cons.mpr ⟨trivial, List.forall_mem_cons.mpr ⟨trivial, List.forall_mem_cons.mpr ⟨trivial, List.forall_mem_cons.mpr ⟨trivial, List.forall_mem_cons.mpr ⟨trivial, List.forall_mem_cons.mpr ⟨trivial, List.forall_mem_cons.mpr ⟨trivial, List.forall_mem_cons.mpr ⟨trivial, List.forall_mem_cons.mpr ⟨trivial, List.forall_mem_cons.mpr ⟨trivial, List.forall_mem_cons.mpr ⟨trivial, List.forall_mem_cons.mpr ⟨trivial, List.forall_mem_cons.mpr ⟨trivial, List.forall_mem_cons.mpr ⟨trivial, List.forall_mem_cons.mpr ⟨trivial, List.forall_mem_cons.mpr ⟨trivial, List.forall_mem_cons.mpr ⟨trivial, List.forall_mem_cons.mpr ⟨trivial, List.forall_mem_cons.mpr ⟨trivial, List.forall_mem_cons.mpr ⟨trivial, List.forall_mem_cons.mpr ⟨w_291 _, List.forall_mem_cons.mpr ⟨trivial, List.forall_mem_cons.mpr ⟨trivial, List.forall_mem_cons.mpr ⟨trivial, List.forall_mem_cons.mpr ⟨trivial, List.forall_mem_cons.mpr ⟨trivial, List.forall_mem_cons.mpr ⟨trivial, List.forall_mem_cons.mpr ⟨trivial, List.forall_mem_cons.mpr ⟨trivial, List.forall_mem_cons.mpr ⟨trivial, List.forall_mem_cons.mpr ⟨trivial, List.forall_mem_cons.mpr ⟨trivial, List.forall_mem_cons.mpr ⟨trivial, List.forall_mem_cons.mpr ⟨trivial, List.forall_mem_cons.mpr ⟨trivial, List.forall_mem_cons.mpr ⟨w_292 _, List.forall_mem_cons.mpr ⟨trivial, List.forall_mem_cons.mpr ⟨trivial, List.forall_mem_cons.mpr ⟨trivial, List.forall_mem_cons.mpr ⟨trivial, List.forall_mem_cons.mpr ⟨trivial, List.forall_mem_cons.mpr ⟨trivial, List.forall_mem_cons.mpr ⟨trivial, List.forall_mem_cons.mpr ⟨trivial, List.forall_mem_cons.mpr ⟨trivial, List.forall_mem_cons.mpr ⟨trivial, List.forall_mem_cons.mpr ⟨trivial, List.forall_mem_cons.mpr ⟨w_293 _, List.forall_mem_cons.mpr ⟨trivial, List.forall_mem_cons.mpr ⟨trivial, List.forall_mem_cons.mpr ⟨trivial, List.forall_mem_cons.mpr ⟨trivial, List.forall_mem_cons.mpr ⟨trivial, List.forall_mem_cons.mpr ⟨trivial, List.forall_mem_cons.mpr ⟨trivial, List.forall_mem_cons.mpr ⟨trivial, List.forall_mem_cons.mpr ⟨trivial, List.forall_mem_cons.mpr ⟨trivial, List.forall_mem_cons.mpr ⟨trivial, List.forall_mem_cons.mpr ⟨trivial, List.forall_mem_cons.mpr ⟨trivial, List.forall_mem_cons.mpr ⟨trivial, List.forall_mem_cons.mpr ⟨w_294 _, List.forall_mem_cons.mpr ⟨trivial, List.forall_mem_cons.mpr ⟨trivial, List.forall_mem_cons.mpr ⟨trivial, List.forall_mem_cons.mpr ⟨trivial, List.forall_mem_cons.mpr ⟨trivial, List.forall_mem_cons.mpr ⟨trivial, List.forall_mem_cons.mpr ⟨trivial, List.forall_mem_cons.mpr ⟨trivial, List.forall_mem_cons.mpr ⟨trivial, List.forall_mem_cons.mpr ⟨trivial, List.forall_mem_cons.mpr ⟨trivial, List.forall_mem_cons.mpr ⟨w_295 _, List.forall_mem_cons.mpr ⟨trivial, List.forall_mem_cons.mpr ⟨trivial, List.forall_mem_cons.mpr ⟨trivial, List.forall_mem_cons.mpr ⟨trivial, List.forall_mem_cons.mpr ⟨trivial, List.forall_mem_cons.mpr ⟨trivial, List.forall_mem_cons.mpr ⟨trivial, List.forall_mem_cons.mpr ⟨trivial, List.forall_mem_cons.mpr ⟨trivial, List.forall_mem_cons.mpr ⟨trivial, List.forall_mem_cons.mpr ⟨trivial, List.forall_mem_cons.mpr ⟨trivial, List.forall_mem_cons.mpr ⟨trivial, List.forall_mem_cons.mpr ⟨trivial, List.forall_mem_cons.mpr ⟨w_296 _, List.forall_mem_cons.mpr ⟨trivial, List.forall_mem_cons.mpr ⟨trivial, List.forall_mem_cons.mpr ⟨trivial, List.forall_mem_cons.mpr ⟨trivial, List.forall_mem_cons.mpr ⟨trivial, List.forall_mem_cons.mpr ⟨trivial, List.forall_mem_cons.mpr ⟨trivial, List.forall_mem_cons.mpr ⟨trivial, List.forall_mem_cons.mpr ⟨trivial, List.forall_mem_cons.mpr ⟨trivial, List.forall_mem_cons.mpr ⟨trivial, List.forall_mem_cons.mpr ⟨w_297 _, List.forall_mem_cons.mpr ⟨trivial, List.forall_mem_cons.mpr ⟨trivial, List.forall_mem_cons.mpr ⟨trivial, List.forall_mem_cons.mpr ⟨trivial, List.forall_mem_cons.mpr ⟨trivial, List.forall_mem_cons.mpr ⟨trivial, List.forall_mem_cons.mpr ⟨trivial, List.forall_mem_cons.mpr ⟨trivial, List.forall_mem_cons.mpr ⟨trivial, List.forall_mem_cons.mpr ⟨trivial, List.forall_mem_cons.mpr ⟨w_298 _, List.forall_mem_cons.mpr ⟨trivial, List.forall_mem_cons.mpr ⟨trivial, List.forall_mem_cons.mpr ⟨trivial, List.forall_mem_cons.mpr ⟨trivial, List.forall_mem_cons.mpr ⟨trivial, List.forall_mem_cons.mpr ⟨trivial, List.forall_mem_cons.mpr ⟨w_299 _, List.forall_mem_cons.mpr ⟨trivial, List.forall_mem_cons.mpr ⟨trivial, List.forall_mem_cons.mpr ⟨trivial, List.forall_mem_cons.mpr ⟨trivial, List.forall_mem_cons.mpr ⟨trivial, List.forall_mem_cons.mpr ⟨trivial, List.forall_mem_cons.mpr ⟨trivial, fun _ h => absurd h List.not_mem_nil⟩⟩⟩⟩⟩⟩⟩⟩⟩⟩⟩⟩⟩⟩⟩⟩⟩⟩⟩⟩⟩⟩⟩⟩⟩⟩⟩⟩⟩⟩⟩⟩⟩⟩⟩⟩⟩⟩⟩⟩⟩⟩⟩⟩⟩⟩⟩⟩⟩⟩⟩⟩⟩⟩⟩⟩⟩⟩⟩⟩⟩⟩⟩⟩⟩⟩⟩⟩⟩⟩⟩⟩⟩⟩⟩⟩⟩⟩⟩⟩⟩⟩⟩⟩⟩⟩⟩⟩⟩⟩⟩⟩⟩⟩⟩⟩⟩⟩⟩⟩⟩⟩⟩⟩⟩⟩⟩⟩⟩⟩⟩⟩⟩⟩⟩⟩⟩⟩⟩⟩⟩⟩⟩⟩⟩⟩⟩⟩⟩⟩⟩⟩⟩⟩⟩⟩⟩⟩⟩⟩⟩⟩⟩⟩⟩⟩⟩⟩⟩⟩⟩⟩⟩⟩⟩⟩⟩⟩⟩⟩⟩⟩⟩⟩⟩⟩⟩⟩⟩⟩⟩⟩⟩⟩⟩⟩⟩⟩⟩⟩⟩⟩⟩⟩⟩⟩⟩⟩⟩⟩⟩⟩⟩⟩⟩⟩⟩⟩⟩⟩⟩⟩⟩⟩⟩⟩⟩⟩⟩⟩⟩⟩⟩⟩⟩⟩⟩⟩⟩⟩⟩⟩⟩⟩⟩⟩⟩⟩⟩⟩⟩⟩⟩⟩⟩⟩⟩⟩⟩⟩⟩⟩⟩⟩⟩⟩⟩⟩⟩⟩⟩⟩⟩⟩⟩⟩⟩⟩⟩⟩⟩⟩⟩⟩⟩⟩⟩⟩⟩⟩⟩⟩⟩⟩⟩⟩⟩⟩⟩⟩⟩⟩⟩⟩⟩⟩⟩⟩⟩⟩⟩⟩⟩⟩⟩⟩⟩⟩⟩⟩⟩⟩⟩⟩⟩⟩⟩⟩⟩⟩⟩⟩⟩⟩⟩⟩⟩⟩⟩⟩⟩⟩⟩⟩⟩⟩⟩⟩⟩⟩⟩⟩⟩⟩⟩⟩⟩⟩⟩⟩⟩⟩⟩⟩⟩⟩⟩⟩⟩⟩⟩⟩⟩⟩⟩⟩⟩⟩⟩⟩⟩⟩⟩⟩⟩⟩⟩⟩⟩⟩⟩⟩⟩⟩⟩⟩⟩⟩⟩⟩⟩⟩⟩⟩⟩⟩⟩⟩⟩⟩⟩⟩⟩⟩⟩⟩⟩⟩⟩⟩⟩⟩⟩⟩⟩⟩⟩⟩⟩⟩⟩⟩⟩⟩⟩⟩⟩⟩⟩⟩⟩⟩⟩⟩⟩⟩⟩⟩⟩⟩⟩⟩⟩⟩⟩⟩⟩⟩⟩⟩⟩⟩⟩⟩⟩⟩⟩⟩⟩⟩⟩⟩⟩⟩⟩⟩⟩⟩⟩⟩⟩⟩⟩⟩⟩⟩⟩⟩⟩⟩⟩⟩⟩⟩⟩⟩⟩⟩⟩⟩⟩⟩⟩⟩⟩⟩⟩⟩⟩⟩⟩⟩⟩⟩⟩⟩⟩⟩⟩⟩⟩⟩⟩⟩⟩⟩⟩⟩⟩⟩⟩⟩⟩⟩⟩⟩⟩⟩⟩⟩⟩⟩⟩⟩⟩⟩⟩⟩⟩⟩⟩⟩⟩⟩⟩⟩⟩⟩⟩⟩⟩⟩⟩⟩⟩⟩⟩⟩⟩⟩⟩
theorem ok_L_law : ev_ok tbs t_L_law := ⟨rfl, by decide +kernel, fun q hq => ⟨List.all_eq_true.mp kb_L_law q hq, kw_L_law q hq⟩⟩
theorem ok_all : ∀ T ∈ ev_tl, ev_ok tbs T := List.forall_mem_cons.mpr ⟨ok_X0_init, List.forall_mem_cons.mpr ⟨ok_X0_begin, List.forall_mem_cons.mpr ⟨ok_X0_add, List.forall_mem_cons.mpr ⟨ok_X0_addAll, List.forall_mem_cons.mpr ⟨ok_X0_finish, List.forall_mem_cons.mpr ⟨ok_X0_padMessage, List.forall_mem_cons.mpr ⟨ok_X0_fillSchedule, List.forall_mem_cons.mpr ⟨ok_X0_compress, List.forall_mem_cons.mpr ⟨ok_X0_turnRight, List.forall_mem_cons.mpr ⟨ok_X1_init, List.forall_mem_cons.mpr ⟨ok_X1_own, List.forall_mem_cons.mpr ⟨ok_X1_clear, List.forall_mem_cons.mpr ⟨ok_X1_isSaved, List.forall_mem_cons.mpr ⟨ok_X1_isDataOf, List.forall_mem_cons.mpr ⟨ok_X1_numberIn, List.forall_mem_cons.mpr ⟨ok_X1_setNumber, List.forall_mem_cons.mpr ⟨ok_X1_join, List.forall_mem_cons.mpr ⟨ok_X2_init, List.forall_mem_cons.mpr ⟨ok_X2_mapSpace, List.forall_mem_cons.mpr ⟨ok_X2_go, List.forall_mem_cons.mpr ⟨ok_X2_forget, List.forall_mem_cons.mpr ⟨ok_X2_step, List.forall_mem_cons.mpr ⟨ok_X2_register, List.forall_mem_cons.mpr ⟨ok_X2_fetch, List.forall_mem_cons.mpr ⟨ok_X2_store, List.forall_mem_cons.mpr ⟨ok_X2_reach, List.forall_mem_cons.mpr ⟨ok_X3_init, List.forall_mem_cons.mpr ⟨ok_X3_derive, List.forall_mem_cons.mpr ⟨ok_X3_sign, List.forall_mem_cons.mpr ⟨ok_X3_beginWithMark, List.forall_mem_cons.mpr ⟨ok_X3_cover, List.forall_mem_cons.mpr ⟨ok_X3_makeBlock, List.forall_mem_cons.mpr ⟨ok_X3_mixQuarter, List.forall_mem_cons.mpr ⟨ok_X3_turnLeft, List.forall_mem_cons.mpr ⟨ok_X4_init, List.forall_mem_cons.mpr ⟨ok_X4_poke, List.forall_mem_cons.mpr ⟨ok_X4_buffer, List.forall_mem_cons.mpr ⟨ok_X4_create, List.forall_mem_cons.mpr ⟨ok_X4_thread, List.forall_mem_cons.mpr ⟨ok_X4_data, List.forall_mem_cons.mpr ⟨ok_X4_versions, List.forall_mem_cons.mpr ⟨ok_X4_finalise, List.forall_mem_cons.mpr ⟨ok_X4_stop, List.forall_mem_cons.mpr ⟨ok_X4_remove, List.forall_mem_cons.mpr ⟨ok_X4_enter, List.forall_mem_cons.mpr ⟨ok_X4_resume, List.forall_mem_cons.mpr ⟨ok_X4_told, List.forall_mem_cons.mpr ⟨ok_X4_evict, List.forall_mem_cons.mpr ⟨ok_X4_reload, List.forall_mem_cons.mpr ⟨ok_X4_page, List.forall_mem_cons.mpr ⟨ok_X4_measure, List.forall_mem_cons.mpr ⟨ok_X4_slot, List.forall_mem_cons.mpr ⟨ok_X4_count, List.forall_mem_cons.mpr ⟨ok_X4_isWithin, List.forall_mem_cons.mpr ⟨ok_X4_isOfType, List.forall_mem_cons.mpr ⟨ok_X4_stateOf, List.forall_mem_cons.mpr ⟨ok_X4_pagesOfType, List.forall_mem_cons.mpr ⟨ok_X4_ownedBy, List.forall_mem_cons.mpr ⟨ok_X4_hasAddress, List.forall_mem_cons.mpr ⟨ok_X4_whyNotAdded, List.forall_mem_cons.mpr ⟨ok_X4_extendMeasure, List.forall_mem_cons.mpr ⟨ok_X4_isRemovable, List.forall_mem_cons.mpr ⟨ok_X4_whyNotRun, List.forall_mem_cons.mpr ⟨ok_X4_runThread, List.forall_mem_cons.mpr ⟨ok_X4_whyNotEvicted, List.forall_mem_cons.mpr ⟨ok_X4_whyNotReloaded, List.forall_mem_cons.mpr ⟨ok_X4_isTagged, List.forall_mem_cons.mpr ⟨ok_X4_writeBlob, List.forall_mem_cons.mpr ⟨ok_X4_readBlob, List.forall_mem_cons.mpr ⟨ok_X5_init, List.forall_mem_cons.mpr ⟨ok_X5_thrown, List.forall_mem_cons.mpr ⟨ok_X5_right, List.forall_mem_cons.mpr ⟨ok_X5_digest, List.forall_mem_cons.mpr ⟨ok_X5_block, List.forall_mem_cons.mpr ⟨ok_X5_tag, List.forall_mem_cons.mpr ⟨ok_X5_quarter, List.forall_mem_cons.mpr ⟨ok_X5_stream, List.forall_mem_cons.mpr ⟨ok_X5_seal, List.forall_mem_cons.mpr ⟨ok_X5_isOf, List.forall_mem_cons.mpr ⟨ok_X5_owned, List.forall_mem_cons.mpr ⟨ok_X5_becomes, List.forall_mem_cons.mpr ⟨ok_X5_poke, List.forall_mem_cons.mpr ⟨ok_X5_buffer, List.forall_mem_cons.mpr ⟨ok_X5_create, List.forall_mem_cons.mpr ⟨ok_X5_measured, List.forall_mem_cons.mpr ⟨ok_X5_thread, List.forall_mem_cons.mpr ⟨ok_X5_at, List.forall_mem_cons.mpr ⟨ok_X5_data, List.forall_mem_cons.mpr ⟨ok_X5_versions, List.forall_mem_cons.mpr ⟨ok_X5_finalise, List.forall_mem_cons.mpr ⟨ok_X5_stop, List.forall_mem_cons.mpr ⟨ok_X5_remove, List.forall_mem_cons.mpr ⟨ok_X5_enter, List.forall_mem_cons.mpr ⟨ok_X5_resume, List.forall_mem_cons.mpr ⟨ok_X5_run, List.forall_mem_cons.mpr ⟨ok_X5_reach, List.forall_mem_cons.mpr ⟨ok_X5_step, List.forall_mem_cons.mpr ⟨ok_X5_told, List.forall_mem_cons.mpr ⟨ok_X5_inSlot, List.forall_mem_cons.mpr ⟨ok_X5_setSlot, List.forall_mem_cons.mpr ⟨ok_X5_evict, List.forall_mem_cons.mpr ⟨ok_X5_reload, List.forall_mem_cons.mpr ⟨ok_X5_page, List.forall_mem_cons.mpr ⟨ok_X5_measure, List.forall_mem_cons.mpr ⟨ok_X5_slot, List.forall_mem_cons.mpr ⟨ok_X5_count, List.forall_mem_cons.mpr ⟨ok_L_cell, List.forall_mem_cons.mpr ⟨ok_L_law, fun _ h => absurd h List.not_mem_nil⟩⟩⟩⟩⟩⟩⟩⟩⟩⟩⟩⟩⟩⟩⟩⟩⟩⟩⟩⟩⟩⟩⟩⟩⟩⟩⟩⟩⟩⟩⟩⟩⟩⟩⟩⟩⟩⟩⟩⟩⟩⟩⟩⟩⟩⟩⟩⟩⟩⟩⟩⟩⟩⟩⟩⟩⟩⟩⟩⟩⟩⟩⟩⟩⟩⟩⟩⟩⟩⟩⟩⟩⟩⟩⟩⟩⟩⟩⟩⟩⟩⟩⟩⟩⟩⟩⟩⟩⟩⟩⟩⟩⟩⟩⟩⟩⟩⟩⟩⟩⟩⟩⟩⟩⟩⟩⟩⟩
theorem ok_tbs : ∀ y T, tbs y = some T → ev_ok tbs T := fun y T h => ok_all T (List.mem_of_getElem? h)
end
section
/-! Rules for runs of the evaluator, goal first. -/
section EVQ
variable {bs : Nat} {sa : Nat → Nat} {d : Nat} {T : e_M} {E : e_C ⊕ (Option Value × e_H) → Prop}
theorem EV.fin {cf : e_C} (h : E (.inl cf)) : ev_E tbs bs sa d T E cf := ⟨0, h⟩
theorem EV.st {cf cf' : e_C} (hs : ev_stp bs sa T cf = some (.inl cf')) (k : ev_E tbs bs sa d T E cf') : ev_E tbs bs sa d T E cf := by
  obtain ⟨n, hn⟩ := k
  refine ⟨n + 1, Or.inr ?_⟩
  rw [hs]; exact hn
theorem EV.ret {cf : e_C} {v : Option Value} (hs : ev_stp bs sa T cf = some (.inr (.inl v))) (k : E (.inr (v, cf.2.2.2))) : ev_E tbs bs sa d T E cf := by
  refine ⟨1, Or.inr ?_⟩
  rw [hs]; exact k
theorem EV.call {cf : e_C} {y nx : Nat} {as r : List Value} {lo : e_L} {v : Option Value} {h' : e_H} (hs : ev_stp bs sa T cf = some (.inr (.inr (y, as, nx, lo, r)))) (hr : ev_run tbs bs sa d y as cf.2.2.2 v h') (k : ev_E tbs bs sa d T E (nx, lo, v.toList ++ r, h')) : ev_E tbs bs sa d T E cf := by
  obtain ⟨n, hn⟩ := k
  refine ⟨n + 1, Or.inr ?_⟩
  rw [hs]; exact ⟨v, h', hr, hn⟩
theorem RUN.mk {y : Nat} {as : List Value} {h h' : e_H} {v : Option Value} (hT : tbs y = some T) (hl : (ev_args as).length ≤ T.1.2.2.2.1) (k : ev_E tbs bs sa d T (fun x => x = .inr (v, h')) (0, ev_loc T.1.2.2.2.1 as, [], h)) : ev_run tbs bs sa (d + 1) y as h v h' := by
  obtain ⟨n, hn⟩ := k
  exact ⟨T, n, hT, hl, hn⟩
theorem ev_rch_K {K K' : Nat → List Value → e_H → Option Value → e_H → Prop} (hK : ∀ y as h v h', K y as h v h' → K' y as h v h') {E : e_C ⊕ (Option Value × e_H) → Prop} : ∀ (n : Nat) (cf : e_C), ev_rch bs sa K T E n cf → ev_rch bs sa K' T E n cf := by
  intro n
  induction n with
  | zero => intro cf h; exact h
  | succ n ih =>
    intro cf h
    rcases h with h | h
    · exact Or.inl h
    · refine Or.inr ?_
      split at h
      · exact ih _ h
      · exact h
      · obtain ⟨v, h', hk, hr⟩ := h
        exact ⟨v, h', hK _ _ _ _ _ hk, ih _ hr⟩
      · exact h
theorem RUN.up {tb : Nat → Option e_M} : ∀ (d y : Nat) (as : List Value) (h : e_H) (v : Option Value) (h' : e_H), ev_run tb bs sa d y as h v h' → ev_run tb bs sa (d + 1) y as h v h' := by
  intro d
  induction d with
  | zero => intro y as h v h' q; exact q.elim
  | succ d ih =>
    intro y as h v h' q
    obtain ⟨T, n, h1, h2, h3⟩ := q
    exact ⟨T, n, h1, h2, ev_rch_K ih n _ h3⟩
theorem RUN.le {tb : Nat → Option e_M} {d d' y : Nat} {as : List Value} {h h' : e_H} {v : Option Value} (hd : d ≤ d') (q : ev_run tb bs sa d y as h v h') : ev_run tb bs sa d' y as h v h' := by
  induction hd with
  | refl => exact q
  | step _ ih => exact RUN.up _ _ _ _ _ _ ih
/-- a world: cells as at the addresses os, over a heap -/
def ev_lk : List Nat → List e_O → Nat → Option e_O
  | a :: as, o :: os, b => cond (Nat.beq b a) (some o) (ev_lk as os b)
  | _, _, _ => none
def wd (as : List Nat) (os : List e_O) (h : e_H) : e_H := (fun b => match ev_lk as os b with
  | some o => some o
  | none => h.1 b, h.2)
theorem beq_ne {a b : Nat} (h : a ≠ b) : Nat.beq a b = false := by
  cases hq : Nat.beq a b with
  | false => rfl
  | true => exact absurd (Nat.eq_of_beq_eq_true hq) h
theorem beq_rf (a : Nat) : Nat.beq a a = true := by simp
theorem lk_at : ∀ {as : List Nat} {os : List e_O} {q a : Nat} {o : e_O}, as.Nodup → as[q]? = some a → os[q]? = some o → ev_lk as os a = some o
  | [], _, q, a, o, _, h, _ => by simp at h
  | b :: as, [], q, a, o, _, _, h => by simp at h
  | b :: as, x :: os, 0, a, o, _, h1, h2 => by
    simp at h1 h2; subst h1; subst h2; simp [ev_lk]
  | b :: as, x :: os, q + 1, a, o, hn, h1, h2 => by
    simp at h1 h2
    obtain ⟨n1, n2⟩ := List.nodup_cons.mp hn
    have hne : a ≠ b := fun e => n1 (by rw [← e]; exact List.mem_of_getElem? h1)
    simp only [ev_lk, beq_ne hne, cond_false]
    exact lk_at n2 h1 h2
theorem lk_out : ∀ {as : List Nat} {os : List e_O} {a : Nat}, a ∉ as → ev_lk as os a = none
  | [], _, a, _ => by simp [ev_lk]
  | b :: as, [], a, _ => by simp [ev_lk]
  | b :: as, x :: os, a, h => by
    have h1 : a ≠ b := fun e => h (by rw [e]; exact List.mem_cons_self)
    simp only [ev_lk, beq_ne h1, cond_false]
    exact lk_out (fun q => h (List.mem_cons_of_mem _ q))
theorem wd_at {as : List Nat} {os : List e_O} {h : e_H} {q a : Nat} {o : e_O} (hn : as.Nodup) (h1 : as[q]? = some a) (h2 : os[q]? = some o) : (wd as os h).1 a = some o := by
  simp [wd, lk_at hn h1 h2]
theorem wd_out {as : List Nat} {os : List e_O} {h : e_H} {a : Nat} (hn : a ∉ as) : (wd as os h).1 a = h.1 a := by
  simp [wd, lk_out hn]
theorem lk_set : ∀ {as : List Nat} {os : List e_O} {q a : Nat} {o : e_O} (b : Nat), as.Nodup → as[q]? = some a → q < os.length → ev_lk as (os.set q o) b = if b = a then some o else ev_lk as os b
  | [], _, q, a, o, b, _, h, _ => by simp at h
  | c :: as, [], q, a, o, b, _, _, h => by simp at h
  | c :: as, x :: os, 0, a, o, b, _, h1, h2 => by
    simp at h1; subst h1
    by_cases e : b = c
    · subst e; simp [ev_lk]
    · simp [ev_lk, beq_ne e, e]
  | c :: as, x :: os, q + 1, a, o, b, hn, h1, h2 => by
    simp at h1 h2
    obtain ⟨n1, n2⟩ := List.nodup_cons.mp hn
    have hne : a ≠ c := fun e => n1 (by rw [← e]; exact List.mem_of_getElem? h1)
    rw [List.set_cons_succ]
    by_cases e : b = c
    · subst e
      simp only [ev_lk, beq_rf, cond_true]
      rw [if_neg (fun z => hne z.symm)]
    · simp only [ev_lk, beq_ne e, cond_false]
      exact lk_set b n2 h1 h2
theorem wd_up {as : List Nat} {os : List e_O} {h : e_H} {q a : Nat} {o : e_O} (hn : as.Nodup) (h1 : as[q]? = some a) (h2 : q < os.length) : ev_up (wd as os h) a o = wd as (os.set q o) h := by
  refine Prod.ext ?_ rfl
  funext b
  rw [ev_up_1]
  show _ = match ev_lk as (os.set q o) b with | some o => some o | none => h.1 b
  rw [lk_set b hn h1 h2]
  by_cases e : b = a
  · rw [if_pos e, if_pos e]
  · rw [if_neg e, if_neg e]; rfl
/-- the same heap, seen as a world -/
theorem wd_self {as : List Nat} {os : List e_O} {h : e_H} (hn : as.Nodup) (hl : as.length = os.length) (hh : ∀ (q a : Nat) (o : e_O), as[q]? = some a → os[q]? = some o → h.1 a = some o) : wd as os h = h := by
  refine Prod.ext ?_ rfl
  funext b
  by_cases hb : b ∈ as
  · obtain ⟨q, hq⟩ := List.getElem?_of_mem hb
    have hlt : q < os.length := by rw [← hl]; exact (List.getElem?_eq_some_iff.mp hq).1
    have ho : os[q]? = some os[q] := List.getElem?_eq_getElem hlt
    rw [wd_at hn hq ho]
    exact (hh q b _ hq ho).symm
  · rw [wd_out hb]
variable {pc nx x1 x2 idx : Nat} {v w : Value} {ts : List Nat} {lo : e_L} {r : List Value} {h : e_H}
theorem EV.get {a : Nat} {fs : List Value} (hf : ev_fnd T.2 pc = some (.getfield idx, nx, x1, x2, v, ts)) (ho : h.1 a = some (.inl (x1, fs))) (hv : fs[x2]? = some w) (k : ev_E tbs bs sa d T E (nx, lo, w :: r, h)) : ev_E tbs bs sa d T E (pc, lo, .ref a :: r, h) := by
  refine EV.st ?_ k
  simp [ev_stp, hf, ev_ins, ev_get, ev_obj, ho, hv, ev_go]
theorem EV.put {a : Nat} {fs : List Value} (hf : ev_fnd T.2 pc = some (.putfield idx, nx, x1, x2, v, ts)) (ho : h.1 a = some (.inl (x1, fs))) (hb : bs ≤ a) (hl : x2 < fs.length) (hk : ev_kd w = ev_kd v) (k : ev_E tbs bs sa d T E (nx, lo, r, ev_up h a (.inl (x1, fs.set x2 w)))) : ev_E tbs bs sa d T E (pc, lo, w :: .ref a :: r, h) := by
  refine EV.st ?_ k
  have h1 : Nat.ble bs a = true := Nat.ble_eq_true_of_le hb
  have h2 : Nat.blt x2 fs.length = true := Nat.ble_eq_true_of_le hl
  simp [ev_stp, hf, ev_ins, ev_put, ev_obj, ho, ev_go, h1, h2, hk]
theorem ev_inN {i : Int32} {j n : Nat} (hi : i = nI j) (hj : j < n) (hn : n < 2 ^ 31) : ev_in i n = true ∧ i.toNatClampNeg = j := by
  subst hi
  have h1 : (nI j).toNatClampNeg = j := nI_clamp (by omega)
  refine ⟨?_, h1⟩
  unfold ev_in
  rw [h1, Bool.and_eq_true]
  exact ⟨decide_eq_true (nI_pos (by omega)), Nat.ble_eq_true_of_le hj⟩
theorem EV.iald {a n j : Nat} {f : Nat → Int32} {i : Int32} (hf : ev_fnd T.2 pc = some (.iaload, nx, x1, x2, v, ts)) (ho : h.1 a = some (.inr (.inl (n, f)))) (hi : i = nI j) (hj : j < n) (hn : n < 2 ^ 31) (k : ev_E tbs bs sa d T E (nx, lo, .int (f j) :: r, h)) : ev_E tbs bs sa d T E (pc, lo, .int i :: .ref a :: r, h) := by
  refine EV.st ?_ k
  obtain ⟨h1, h2⟩ := ev_inN hi hj hn
  simp [ev_stp, hf, ev_ins, ev_iald, ev_ia, ho, ev_go, h1, h2]
theorem EV.iast {a n j : Nat} {f : Nat → Int32} {i x : Int32} (hf : ev_fnd T.2 pc = some (.iastore, nx, x1, x2, v, ts)) (ho : h.1 a = some (.inr (.inl (n, f)))) (hb : bs ≤ a) (hi : i = nI j) (hj : j < n) (hn : n < 2 ^ 31) (k : ev_E tbs bs sa d T E (nx, lo, r, ev_up h a (.inr (.inl (n, upd f j x))))) : ev_E tbs bs sa d T E (pc, lo, .int x :: .int i :: .ref a :: r, h) := by
  refine EV.st ?_ k
  obtain ⟨h1, h2⟩ := ev_inN hi hj hn
  have h3 : Nat.ble bs a = true := Nat.ble_eq_true_of_le hb
  simp [ev_stp, hf, ev_ins, ev_iast, ev_ia, ho, ev_go, h1, h2, h3]
theorem EV.aald {a n j : Nat} {f : Nat → Option Nat} {i : Int32} (hf : ev_fnd T.2 pc = some (.aaload, nx, x1, x2, v, ts)) (ho : h.1 a = some (.inr (.inr (.inr (n, f))))) (hi : i = nI j) (hj : j < n) (hn : n < 2 ^ 31) (k : ev_E tbs bs sa d T E (nx, lo, va_rf (f j) :: r, h)) : ev_E tbs bs sa d T E (pc, lo, .int i :: .ref a :: r, h) := by
  refine EV.st ?_ k
  obtain ⟨h1, h2⟩ := ev_inN hi hj hn
  simp [ev_stp, hf, ev_ins, ev_aald, ev_ra, ho, ev_go, h1, h2]
theorem EV.icm {x y : Int32} {c : ClassFile.Cond} {off : Int} (hf : ev_fnd T.2 pc = some (.if_icmp c off, nx, x1, x2, v, ts)) (kt : ev_cmp c x y = true → ev_E tbs bs sa d T E (x1, lo, r, h)) (kf : ev_cmp c x y = false → ev_E tbs bs sa d T E (nx, lo, r, h)) : ev_E tbs bs sa d T E (pc, lo, .int y :: .int x :: r, h) := by
  cases hc : ev_cmp c x y with
  | true => exact EV.st (by simp [ev_stp, hf, ev_ins, ev_icm, ev_go, hc]) (kt hc)
  | false => exact EV.st (by simp [ev_stp, hf, ev_ins, ev_icm, ev_go, hc]) (kf hc)
theorem EV.ifc {x : Int32} {c : ClassFile.Cond} {off : Int} (hf : ev_fnd T.2 pc = some (.ifCond c off, nx, x1, x2, v, ts)) (kt : ev_cmp c x 0 = true → ev_E tbs bs sa d T E (x1, lo, r, h)) (kf : ev_cmp c x 0 = false → ev_E tbs bs sa d T E (nx, lo, r, h)) : ev_E tbs bs sa d T E (pc, lo, .int x :: r, h) := by
  cases hc : ev_cmp c x 0 with
  | true => exact EV.st (by simp [ev_stp, hf, ev_ins, ev_ifc, ev_go, hc]) (kt hc)
  | false => exact EV.st (by simp [ev_stp, hf, ev_ins, ev_ifc, ev_go, hc]) (kf hc)
end EVQ
end
section
section EVZ
variable {bs : Nat} {sa : Nat → Nat} {d : Nat} {T : e_M} {E : e_C ⊕ (Option Value × e_H) → Prop}
variable {pc nx x1 x2 idx : Nat} {v w : Value} {ts : List Nat} {lo : e_L} {r : List Value} {h : e_H} {as : List Nat} {os : List e_O}
theorem EW.get {a : Nat} {fs : List Value} (q : Nat) (hD : as.Nodup) (hf : ev_fnd T.2 pc = some (.getfield idx, nx, x1, x2, v, ts)) (h1 : as[q]? = some a) (h2 : os[q]? = some (.inl (x1, fs))) (hv : fs[x2]? = some w) (k : ev_E tbs bs sa d T E (nx, lo, w :: r, wd as os h)) : ev_E tbs bs sa d T E (pc, lo, .ref a :: r, wd as os h) := EV.get hf (wd_at hD h1 h2) hv k
theorem EW.put {a : Nat} {fs : List Value} (q : Nat) (hD : as.Nodup) (hf : ev_fnd T.2 pc = some (.putfield idx, nx, x1, x2, v, ts)) (h1 : as[q]? = some a) (h2 : os[q]? = some (.inl (x1, fs))) (hb : bs ≤ a) (hl : x2 < fs.length) (hk : ev_kd w = ev_kd v) (k : ev_E tbs bs sa d T E (nx, lo, r, wd as (os.set q (.inl (x1, fs.set x2 w))) h)) : ev_E tbs bs sa d T E (pc, lo, w :: .ref a :: r, wd as os h) :=
  EV.put hf (wd_at hD h1 h2) hb hl hk (by rw [wd_up hD h1 (List.getElem?_eq_some_iff.mp h2).1]; exact k)
theorem EW.iald {a n : Nat} {f : Nat → Int32} {i : Int32} (q j : Nat) (hD : as.Nodup) (hf : ev_fnd T.2 pc = some (.iaload, nx, x1, x2, v, ts)) (h1 : as[q]? = some a) (h2 : os[q]? = some (.inr (.inl (n, f)))) (hi : i = nI j) (hj : j < n) (hn : n < 2 ^ 31) (k : ev_E tbs bs sa d T E (nx, lo, .int (f j) :: r, wd as os h)) : ev_E tbs bs sa d T E (pc, lo, .int i :: .ref a :: r, wd as os h) := EV.iald hf (wd_at hD h1 h2) hi hj hn k
theorem EW.iast {a n : Nat} {f : Nat → Int32} {i x : Int32} (q j : Nat) (hD : as.Nodup) (hf : ev_fnd T.2 pc = some (.iastore, nx, x1, x2, v, ts)) (h1 : as[q]? = some a) (h2 : os[q]? = some (.inr (.inl (n, f)))) (hb : bs ≤ a) (hi : i = nI j) (hj : j < n) (hn : n < 2 ^ 31) (k : ev_E tbs bs sa d T E (nx, lo, r, wd as (os.set q (.inr (.inl (n, upd f j x)))) h)) : ev_E tbs bs sa d T E (pc, lo, .int x :: .int i :: .ref a :: r, wd as os h) :=
  EV.iast hf (wd_at hD h1 h2) hb hi hj hn (by rw [wd_up hD h1 (List.getElem?_eq_some_iff.mp h2).1]; exact k)
theorem EW.aald {a n : Nat} {f : Nat → Option Nat} {i : Int32} (q j : Nat) (hD : as.Nodup) (hf : ev_fnd T.2 pc = some (.aaload, nx, x1, x2, v, ts)) (h1 : as[q]? = some a) (h2 : os[q]? = some (.inr (.inr (.inr (n, f))))) (hi : i = nI j) (hj : j < n) (hn : n < 2 ^ 31) (k : ev_E tbs bs sa d T E (nx, lo, va_rf (f j) :: r, wd as os h)) : ev_E tbs bs sa d T E (pc, lo, .int i :: .ref a :: r, wd as os h) := EV.aald hf (wd_at hD h1 h2) hi hj hn k
end EVZ
end
section
def ev_smp : Instr → Bool
  | .if_icmp _ _ => false
  | .ifCond _ _ => false
  | .tableswitch _ _ _ _ => false
  | .getfield _ => false
  | .putfield _ => false
  | .iaload => false
  | .iastore => false
  | .laload => false
  | .lastore => false
  | .aaload => false
  | .aastore => false
  | .arraylength => false
  | .new _ => false
  | .newarray _ => false
  | .anewarray _ => false
  | .invokestatic _ => false
  | .invokespecial _ => false
  | .invokevirtual _ => false
  | .ireturn => false
  | .lreturn => false
  | .areturn => false
  | .return_ => false
  | _ => true
def setm : List e_O → List Nat → List e_O → List e_O
  | os, p :: ps, x :: xs => (setm os ps xs).set p x
  | os, _, _ => os
theorem setm_len : ∀ (os : List e_O) (ps : List Nat) (xs : List e_O), (setm os ps xs).length = os.length
  | os, [], xs => by simp [setm]
  | os, p :: ps, [] => by simp [setm]
  | os, p :: ps, x :: xs => by simp only [setm, List.length_set]; exact setm_len os ps xs
theorem wd_cons (a : Nat) (as : List Nat) (o : e_O) (os : List e_O) (h : e_H) : wd (a :: as) (o :: os) h = ev_up (wd as os h) a o := by
  refine Prod.ext ?_ rfl
  funext b
  rw [ev_up_1]
  by_cases e : b = a
  · subst e; simp [wd, ev_lk]
  · rw [if_neg e]; simp [wd, ev_lk, beq_ne e]
theorem wd_nil (h : e_H) : wd [] [] h = h := by
  refine Prod.ext ?_ rfl
  funext b
  simp [wd, ev_lk]
theorem up_same {h : e_H} {a : Nat} {o : e_O} (hh : h.1 a = some o) : ev_up h a o = h := by
  refine Prod.ext ?_ rfl
  funext b
  rw [ev_up_1]
  by_cases e : b = a
  · rw [if_pos e, e, hh]
  · rw [if_neg e]
/-- a callee's world inside a caller's -/
theorem wd_in {as : List Nat} {os : List e_O} {h : e_H} (hD : as.Nodup) : ∀ {ps as1 : List Nat} {os1 : List e_O}, ps.map (fun p => as[p]?) = as1.map some → ps.map (fun p => os[p]?) = os1.map some → wd as1 os1 (wd as os h) = wd as os h
  | [], as1, os1, h1, h2 => by
    have e1 : as1 = [] := by simpa using h1.symm
    have e2 : os1 = [] := by simpa using h2.symm
    subst e1; subst e2; exact wd_nil _
  | p :: ps, [], os1, h1, h2 => by simp at h1
  | p :: ps, a :: as1, [], h1, h2 => by simp at h2
  | p :: ps, a :: as1, o :: os1, h1, h2 => by
    simp only [List.map_cons, List.cons.injEq] at h1 h2
    rw [wd_cons, wd_in hD h1.2 h2.2]
    exact up_same (wd_at hD h1.1 h2.1)
theorem wd_out2 {as : List Nat} {os : List e_O} {h : e_H} (hD : as.Nodup) (hl : as.length = os.length) : ∀ {ps as1 : List Nat} {os1 : List e_O}, ps.map (fun p => as[p]?) = as1.map some → os1.length = ps.length → wd as1 os1 (wd as os h) = wd as (setm os ps os1) h
  | [], as1, os1, h1, h2 => by
    have e1 : as1 = [] := by simpa using h1.symm
    have e2 : os1 = [] := List.length_eq_zero_iff.mp h2
    subst e1; subst e2; rw [wd_nil]; rfl
  | p :: ps, [], os1, h1, h2 => by simp at h1
  | p :: ps, a :: as1, [], h1, h2 => by simp at h2
  | p :: ps, a :: as1, o :: os1, h1, h2 => by
    simp only [List.map_cons, List.cons.injEq] at h1
    rw [wd_cons, wd_out2 hD hl h1.2 (by simpa using h2)]
    exact wd_up hD h1.1 (by rw [setm_len, ← hl]; exact (List.getElem?_eq_some_iff.mp h1.1).1)
section EVZ
variable {bs : Nat} {sa : Nat → Nat} {d : Nat} {T : e_M} {E : e_C ⊕ (Option Value × e_H) → Prop}
variable {pc nx x1 x2 idx : Nat} {v w : Value} {ts : List Nat} {lo : e_L} {r : List Value} {h : e_H} {as : List Nat} {os : List e_O}
theorem EV.s {i : Instr} {cf' : e_C} {sk : List Value} (hf : ev_fnd T.2 pc = some (i, nx, x1, x2, v, ts)) (hi : ev_smp i = true) (hs : ev_ins bs sa T.1.2.2.2.2 nx x1 x2 v ts lo sk h i = some (.inl cf')) (k : ev_E tbs bs sa d T E cf') : ev_E tbs bs sa d T E (pc, lo, sk, h) := by
  refine EV.st ?_ k
  simp only [ev_stp, hf]; exact hs
theorem EV.cv {ci b : Nat} {fs : List Value} {sk : List Value} {rv : Option Value} {h' : e_H} (hf : ev_fnd T.2 pc = some (.invokevirtual idx, nx, x1, x2, v, [ci])) (hdr : sk.drop x2 = .ref b :: r) (ho : h.1 b = some (.inl (ci, fs))) (hlen : x2 ≤ sk.length) (hsum : ev_sum r ≤ 8) (hr : ev_run tbs bs sa d x1 (.ref b :: (sk.take x2).reverse) h rv h') (k : ev_E tbs bs sa d T E (nx, lo, rv.toList ++ r, h')) : ev_E tbs bs sa d T E (pc, lo, sk, h) := by
  refine EV.call (y := x1) (as := .ref b :: (sk.take x2).reverse) ?_ hr k
  have h1 : Nat.ble x2 sk.length = true := Nat.ble_eq_true_of_le hlen
  have h2 : Nat.ble (ev_sum r) 8 = true := Nat.ble_eq_true_of_le hsum
  simp [ev_stp, hf, ev_ins, ev_callV, hdr, ev_obj, ho, h1, h2]
theorem EW.cv {ci b : Nat} {fs : List Value} {sk avs : List Value} {rv : Option Value} {as1 : List Nat} {os1 os2 : List e_O} (q : Nat) (ps : List Nat) (hD : as.Nodup) (hl : as.length = os.length) (hr : ∀ h0, ev_run tbs bs sa d x1 avs (wd as1 os1 h0) rv (wd as1 os2 h0)) (hf : ev_fnd T.2 pc = some (.invokevirtual idx, nx, x1, x2, v, [ci])) (hdr : sk.drop x2 = .ref b :: r) (hq : as[q]? = some b) (ho : os[q]? = some (.inl (ci, fs))) (hlen : x2 ≤ sk.length) (hsum : ev_sum r ≤ 8) (ha : avs = .ref b :: (sk.take x2).reverse) (h1 : ps.map (fun p => as[p]?) = as1.map some) (h2 : ps.map (fun p => os[p]?) = os1.map some) (h3 : os2.length = ps.length)
    (k : ev_E tbs bs sa d T E (nx, lo, rv.toList ++ r, wd as (setm os ps os2) h)) : ev_E tbs bs sa d T E (pc, lo, sk, wd as os h) := by
  subst ha
  have hr := hr (wd as os h)
  rw [wd_in hD h1 h2, wd_out2 hD hl h1 h3] at hr
  exact EV.cv hf hdr (wd_at hD hq ho) hlen hsum hr k
theorem EW.cs {sk avs : List Value} {rv : Option Value} {as1 : List Nat} {os1 os2 : List e_O} (ps : List Nat) (hD : as.Nodup) (hl : as.length = os.length) (hr : ∀ h0, ev_run tbs bs sa d x1 avs (wd as1 os1 h0) rv (wd as1 os2 h0)) (hf : ev_fnd T.2 pc = some (.invokestatic idx, nx, x1, x2, v, ts)) (hne : x1 ≠ 1001) (hlen : x2 ≤ sk.length) (hsum : ev_sum (sk.drop x2) ≤ 8) (ha : avs = (sk.take x2).reverse) (h1 : ps.map (fun p => as[p]?) = as1.map some) (h2 : ps.map (fun p => os[p]?) = os1.map some) (h3 : os2.length = ps.length)
    (k : ev_E tbs bs sa d T E (nx, lo, rv.toList ++ sk.drop x2, wd as (setm os ps os2) h)) : ev_E tbs bs sa d T E (pc, lo, sk, wd as os h) := by
  subst ha
  have hr := hr (wd as os h)
  rw [wd_in hD h1 h2, wd_out2 hD hl h1 h3] at hr
  refine EV.call (y := x1) (as := (sk.take x2).reverse) ?_ hr k
  have g1 : Nat.ble x2 sk.length = true := Nat.ble_eq_true_of_le hlen
  have g2 : Nat.ble (ev_sum (sk.drop x2)) 8 = true := Nat.ble_eq_true_of_le hsum
  simp [ev_stp, hf, ev_ins, hne, ev_callS, g1, g2]
theorem EW.cpy {a a0 n0 n1 : Nat} {f g : Nat → Int32} {i0 i1 i2 : Int32} (q0 q1 sp dp n : Nat) (hD : as.Nodup) (hf : ev_fnd T.2 pc = some (.invokestatic idx, nx, 1001, x2, v, ts)) (h1 : as[q0]? = some a0) (h2 : os[q0]? = some (.inr (.inl (n0, f)))) (h3 : as[q1]? = some a) (h4 : os[q1]? = some (.inr (.inl (n1, g)))) (hb : bs ≤ a) (hs : i0 = nI sp) (hd : i1 = nI dp) (hn : i2 = nI n) (l0 : sp + n ≤ n0) (l1 : dp + n ≤ n1) (m0 : n0 < 2 ^ 31) (m1 : n1 < 2 ^ 31) (hsum : ev_sum r ≤ 8)
    (k : ev_E tbs bs sa d T E (nx, lo, r, wd as (os.set q1 (.inr (.inl (n1, va_cpy f g sp dp n)))) h)) : ev_E tbs bs sa d T E (pc, lo, .int i2 :: .int i1 :: .ref a :: .int i0 :: .ref a0 :: r, wd as os h) := by
  subst hs; subst hd; subst hn
  have e0 : (nI sp).toNatClampNeg = sp := nI_clamp (by omega)
  have e1 : (nI dp).toNatClampNeg = dp := nI_clamp (by omega)
  have e2 : (nI n).toNatClampNeg = n := nI_clamp (by omega)
  have p0 : ¬ nI sp < 0 := nI_pos (by omega)
  have p1 : ¬ nI dp < 0 := nI_pos (by omega)
  have p2 : ¬ nI n < 0 := nI_pos (by omega)
  have b0 : Nat.ble bs a = true := Nat.ble_eq_true_of_le hb
  have b1 : Nat.ble (ev_sum r) 8 = true := Nat.ble_eq_true_of_le hsum
  have b2 : Nat.ble (sp + n) n0 = true := Nat.ble_eq_true_of_le l0
  have b3 : Nat.ble (dp + n) n1 = true := Nat.ble_eq_true_of_le l1
  rw [← wd_up hD h3 (List.getElem?_eq_some_iff.mp h4).1] at k
  refine EV.st ?_ k
  simp [ev_stp, hf, ev_ins, ev_cpy, ev_ia, wd_at hD h1 h2, wd_at hD h3 h4, e0, e1, e2, p0, p1, p2, b0, b1, b2, b3, ev_go]
end EVZ
theorem EV.ri {bs : Nat} {sa : Nat → Nat} {d : Nat} {T : e_M} {E : e_C ⊕ (Option Value × e_H) → Prop} {pc nx x1 x2 : Nat} {v : Value} {ts : List Nat} {lo : e_L} {h : e_H} {x : Int32} (hf : ev_fnd T.2 pc = some (.ireturn, nx, x1, x2, v, ts)) (hr : T.1.2.2.2.2 = some .int) (k : E (.inr (some (.int x), h))) : ev_E tbs bs sa d T E (pc, lo, [.int x], h) := by
  refine EV.ret (v := some (.int x)) ?_ k
  simp [ev_stp, hf, ev_ins, ev_ret, hr, ev_kd, ev_rk, narrow]
theorem EV.rl {bs : Nat} {sa : Nat → Nat} {d : Nat} {T : e_M} {E : e_C ⊕ (Option Value × e_H) → Prop} {pc nx x1 x2 : Nat} {v : Value} {ts : List Nat} {lo : e_L} {h : e_H} {x : Int64} (hf : ev_fnd T.2 pc = some (.lreturn, nx, x1, x2, v, ts)) (hr : T.1.2.2.2.2 = some .long) (k : E (.inr (some (.long x), h))) : ev_E tbs bs sa d T E (pc, lo, [.long x], h) := by
  refine EV.ret (v := some (.long x)) ?_ k
  simp [ev_stp, hf, ev_ins, ev_ret, hr, ev_kd, ev_rk, narrow]
theorem rch_some {bs : Nat} {sa : Nat → Nat} {K : Nat → List Value → e_H → Option Value → e_H → Prop} {T : e_M} {Q : Option Value → e_H → Prop} : ∀ (n : Nat) (cf : e_C), ev_rch bs sa K T (fun x => ∃ v h', x = .inr (v, h') ∧ Q v h') n cf → ∃ v h', Q v h' ∧ ev_rch bs sa K T (fun x => x = .inr (v, h')) n cf := by
  intro n
  induction n with
  | zero => intro cf h; obtain ⟨v, h', e, -⟩ := h; cases e
  | succ n ih =>
    intro cf h
    rcases h with h | h
    · obtain ⟨v, h', e, -⟩ := h; cases e
    · split at h
      · rename_i cf' hs
        obtain ⟨v, h', hq, hr⟩ := ih _ h
        exact ⟨v, h', hq, Or.inr (by rw [hs]; exact hr)⟩
      · rename_i v hs
        obtain ⟨v', h', e, hq⟩ := h
        exact ⟨v', h', hq, Or.inr (by rw [hs]; exact e)⟩
      · rename_i y as nx lo r hs
        obtain ⟨v, h1, hk, hr⟩ := h
        obtain ⟨v', h', hq, hr⟩ := ih _ hr
        exact ⟨v', h', hq, Or.inr (by rw [hs]; exact ⟨v, h1, hk, hr⟩)⟩
      · exact h.elim
theorem RUN.mkE {bs : Nat} {sa : Nat → Nat} {d : Nat} {T : e_M} {y : Nat} {as : List Value} {h : e_H} {Q : Option Value → e_H → Prop} (hT : tbs y = some T) (hl : (ev_args as).length ≤ T.1.2.2.2.1) (k : ev_E tbs bs sa d T (fun x => ∃ v h', x = .inr (v, h') ∧ Q v h') (0, ev_loc T.1.2.2.2.1 as, [], h)) : ∃ v h', Q v h' ∧ ev_run tbs bs sa (d + 1) y as h v h' := by
  obtain ⟨n, hn⟩ := k
  obtain ⟨v, h', hq, hr⟩ := rch_some n _ hn
  exact ⟨v, h', hq, ⟨T, n, hT, hl, hr⟩⟩
/-- a contract: over any heap, with the world os1 at as1, the method y ends with an answer and a world of Q -/
def CT (bs : Nat) (sa : Nat → Nat) (d y : Nat) (avs : List Value) (as1 : List Nat) (os1 : List e_O) (Q : Option Value → List e_O → Prop) : Prop := ∀ h0, ∃ rv os2, (Q rv os2 ∧ os2.length = as1.length) ∧ ev_run tbs bs sa d y avs (wd as1 os1 h0) rv (wd as1 os2 h0)
theorem CT.mk {bs : Nat} {sa : Nat → Nat} {d : Nat} {T : e_M} {y : Nat} {avs : List Value} {as1 : List Nat} {os1 : List e_O} {Q : Option Value → List e_O → Prop} (hT : tbs y = some T) (hl : (ev_args avs).length ≤ T.1.2.2.2.1) (k : ∀ h, ev_E tbs bs sa d T (fun x => ∃ v h', x = .inr (v, h') ∧ ∃ os2, (Q v os2 ∧ os2.length = as1.length) ∧ h' = wd as1 os2 h) (0, ev_loc T.1.2.2.2.1 avs, [], wd as1 os1 h)) : CT bs sa (d + 1) y avs as1 os1 Q := by
  intro h0
  obtain ⟨v, h', ⟨os2, hq, rfl⟩, hr⟩ := RUN.mkE hT hl (k h0)
  exact ⟨v, os2, hq, hr⟩
theorem CT.le {bs : Nat} {sa : Nat → Nat} {d d' : Nat} {y : Nat} {avs : List Value} {as1 : List Nat} {os1 : List e_O} {Q : Option Value → List e_O → Prop} (hd : d ≤ d') (h : CT bs sa d y avs as1 os1 Q) : CT bs sa d' y avs as1 os1 Q := by
  intro h0
  obtain ⟨rv, os2, hq, hr⟩ := h h0
  exact ⟨rv, os2, hq, RUN.le hd hr⟩
theorem CT.of {bs : Nat} {sa : Nat → Nat} {d : Nat} {y : Nat} {avs : List Value} {as1 : List Nat} {os1 os2 : List e_O} {rv : Option Value} (hl : os2.length = as1.length) (h : ∀ h0, ev_run tbs bs sa d y avs (wd as1 os1 h0) rv (wd as1 os2 h0)) : CT bs sa d y avs as1 os1 (fun v o => v = rv ∧ o = os2) := fun h0 => ⟨rv, os2, ⟨⟨rfl, rfl⟩, hl⟩, h h0⟩
section EVZ2
variable {bs : Nat} {sa : Nat → Nat} {d : Nat} {T : e_M} {E : e_C ⊕ (Option Value × e_H) → Prop}
variable {pc nx x1 x2 idx : Nat} {v w : Value} {ts : List Nat} {lo : e_L} {r : List Value} {h : e_H} {as : List Nat} {os : List e_O}
theorem EW.cvE {ci b : Nat} {fs : List Value} {sk avs : List Value} {as1 : List Nat} {os1 : List e_O} {Q : Option Value → List e_O → Prop} (q : Nat) (ps : List Nat) (hD : as.Nodup) (hr : CT bs sa d x1 avs as1 os1 Q) (hf : ev_fnd T.2 pc = some (.invokevirtual idx, nx, x1, x2, v, [ci])) (hl : as.length = os.length) (hdr : sk.drop x2 = .ref b :: r) (hq : as[q]? = some b) (ho : os[q]? = some (.inl (ci, fs))) (hlen : x2 ≤ sk.length) (hsum : ev_sum r ≤ 8) (ha : avs = .ref b :: (sk.take x2).reverse) (h1 : ps.map (fun p => as[p]?) = as1.map some) (h2 : ps.map (fun p => os[p]?) = os1.map some)
    (k : ∀ rv os2, Q rv os2 → ev_E tbs bs sa d T E (nx, lo, rv.toList ++ r, wd as (setm os ps os2) h)) : ev_E tbs bs sa d T E (pc, lo, sk, wd as os h) := by
  subst ha
  obtain ⟨rv, os2, ⟨hQ, hl2⟩, hr⟩ := hr (wd as os h)
  have h3 : os2.length = ps.length := by rw [hl2]; have := congrArg List.length h1; simpa using this.symm
  rw [wd_in hD h1 h2, wd_out2 hD hl h1 h3] at hr
  exact EV.cv hf hdr (wd_at hD hq ho) hlen hsum hr (k rv os2 hQ)
theorem EW.csE {sk avs : List Value} {as1 : List Nat} {os1 : List e_O} {Q : Option Value → List e_O → Prop} (ps : List Nat) (hD : as.Nodup) (hr : CT bs sa d x1 avs as1 os1 Q) (hf : ev_fnd T.2 pc = some (.invokestatic idx, nx, x1, x2, v, ts)) (hl : as.length = os.length) (hne : x1 ≠ 1001) (hlen : x2 ≤ sk.length) (hsum : ev_sum (sk.drop x2) ≤ 8) (ha : avs = (sk.take x2).reverse) (h1 : ps.map (fun p => as[p]?) = as1.map some) (h2 : ps.map (fun p => os[p]?) = os1.map some)
    (k : ∀ rv os2, Q rv os2 → ev_E tbs bs sa d T E (nx, lo, rv.toList ++ sk.drop x2, wd as (setm os ps os2) h)) : ev_E tbs bs sa d T E (pc, lo, sk, wd as os h) := by
  subst ha
  obtain ⟨rv, os2, ⟨hQ, hl2⟩, hr⟩ := hr (wd as os h)
  have h3 : os2.length = ps.length := by rw [hl2]; have := congrArg List.length h1; simpa using this.symm
  rw [wd_in hD h1 h2, wd_out2 hD hl h1 h3] at hr
  refine EV.call (y := x1) (as := (sk.take x2).reverse) ?_ hr (k rv os2 hQ)
  have g1 : Nat.ble x2 sk.length = true := Nat.ble_eq_true_of_le hlen
  have g2 : Nat.ble (ev_sum (sk.drop x2)) 8 = true := Nat.ble_eq_true_of_le hsum
  simp [ev_stp, hf, ev_ins, hne, ev_callS, g1, g2]
end EVZ2
theorem EV.alen {bs : Nat} {sa : Nat → Nat} {d : Nat} {T : e_M} {E : e_C ⊕ (Option Value × e_H) → Prop} {pc nx x1 x2 : Nat} {v : Value} {ts : List Nat} {lo : e_L} {r : List Value} {h : e_H} {a n : Nat} (hf : ev_fnd T.2 pc = some (.arraylength, nx, x1, x2, v, ts)) (ho : ev_len h a = some n) (k : ev_E tbs bs sa d T E (nx, lo, .int (nI n) :: r, h)) : ev_E tbs bs sa d T E (pc, lo, .ref a :: r, h) := by
  refine EV.st ?_ k
  simp [ev_stp, hf, ev_ins, ev_alen, ho, ev_go, nI]
theorem EW.alenR {bs : Nat} {sa : Nat → Nat} {d : Nat} {T : e_M} {E : e_C ⊕ (Option Value × e_H) → Prop} {pc nx x1 x2 : Nat} {v : Value} {ts : List Nat} {lo : e_L} {r : List Value} {h : e_H} {a n : Nat} {as : List Nat} {os : List e_O} {f : Nat → Option Nat} (q : Nat) (hD : as.Nodup) (hf : ev_fnd T.2 pc = some (.arraylength, nx, x1, x2, v, ts)) (h1 : as[q]? = some a) (h2 : os[q]? = some (.inr (.inr (.inr (n, f))))) (k : ev_E tbs bs sa d T E (nx, lo, .int (nI n) :: r, wd as os h)) : ev_E tbs bs sa d T E (pc, lo, .ref a :: r, wd as os h) := EV.alen hf (by simp [ev_len, wd_at hD h1 h2]) k
theorem EW.alenI {bs : Nat} {sa : Nat → Nat} {d : Nat} {T : e_M} {E : e_C ⊕ (Option Value × e_H) → Prop} {pc nx x1 x2 : Nat} {v : Value} {ts : List Nat} {lo : e_L} {r : List Value} {h : e_H} {a n : Nat} {as : List Nat} {os : List e_O} {f : Nat → Int32} (q : Nat) (hD : as.Nodup) (hf : ev_fnd T.2 pc = some (.arraylength, nx, x1, x2, v, ts)) (h1 : as[q]? = some a) (h2 : os[q]? = some (.inr (.inl (n, f)))) (k : ev_E tbs bs sa d T E (nx, lo, .int (nI n) :: r, wd as os h)) : ev_E tbs bs sa d T E (pc, lo, .ref a :: r, wd as os h) := EV.alen hf (by simp [ev_len, wd_at hD h1 h2]) k
theorem EV.aast {bs : Nat} {sa : Nat → Nat} {d : Nat} {T : e_M} {E : e_C ⊕ (Option Value × e_H) → Prop} {pc nx x1 x2 : Nat} {v : Value} {ts : List Nat} {lo : e_L} {r : List Value} {h : e_H} {a b n j : Nat} {f : Nat → Option Nat} {fs : List Value} {i : Int32} (hf : ev_fnd T.2 pc = some (.aastore, nx, x1, x2, v, ts)) (ho : h.1 a = some (.inr (.inr (.inr (n, f))))) (hp : h.1 b = some (.inl (1, fs))) (hb : bs ≤ a) (hi : i = nI j) (hj : j < n) (hn : n < 2 ^ 31) (k : ev_E tbs bs sa d T E (nx, lo, r, ev_up h a (.inr (.inr (.inr (n, va_up f j (some b))))))) : ev_E tbs bs sa d T E (pc, lo, .ref b :: .int i :: .ref a :: r, h) := by
  refine EV.st ?_ k
  obtain ⟨h1, h2⟩ := ev_inN hi hj hn
  have h3 : Nat.ble bs a = true := Nat.ble_eq_true_of_le hb
  simp [ev_stp, hf, ev_ins, ev_aast, ev_ra, ev_obj, ho, hp, ev_go, h1, h2, h3]
theorem EV.aastN {bs : Nat} {sa : Nat → Nat} {d : Nat} {T : e_M} {E : e_C ⊕ (Option Value × e_H) → Prop} {pc nx x1 x2 : Nat} {v : Value} {ts : List Nat} {lo : e_L} {r : List Value} {h : e_H} {a n j : Nat} {f : Nat → Option Nat} {i : Int32} (hf : ev_fnd T.2 pc = some (.aastore, nx, x1, x2, v, ts)) (ho : h.1 a = some (.inr (.inr (.inr (n, f))))) (hb : bs ≤ a) (hi : i = nI j) (hj : j < n) (hn : n < 2 ^ 31) (k : ev_E tbs bs sa d T E (nx, lo, r, ev_up h a (.inr (.inr (.inr (n, va_up f j none)))))) : ev_E tbs bs sa d T E (pc, lo, .null :: .int i :: .ref a :: r, h) := by
  refine EV.st ?_ k
  obtain ⟨h1, h2⟩ := ev_inN hi hj hn
  have h3 : Nat.ble bs a = true := Nat.ble_eq_true_of_le hb
  simp [ev_stp, hf, ev_ins, ev_aast, ev_ra, ho, ev_go, h1, h2, h3]
end
section
theorem r_isWithin {bs : Nat} {sa : Nat → Nat} (d : Nat) (k b : Int32) (h : e_H) : ev_run tbs bs sa (d + 1) 53 [.int k, .int b] h (some (.int (if 0 ≤ k ∧ k < b then 1 else 0))) h := by
  refine RUN.mk (T := t_X4_isWithin) rfl (Nat.le_of_ble_eq_true rfl) ?_
  refine EV.st rfl ?_
  refine EV.ifc rfl (fun hc => ?_) (fun hc => ?_)
  · have hc : k < 0 := of_decide_eq_true hc
    refine EV.st rfl ?_
    refine EV.ret rfl ?_
    rw [if_neg (fun q => Int32.not_le.mpr hc q.1)]
  · have hc : ¬ k < 0 := of_decide_eq_false hc
    refine EV.st rfl ?_
    refine EV.st rfl ?_
    refine EV.icm rfl (fun hb => ?_) (fun hb => ?_)
    · have hb : b ≤ k := of_decide_eq_true hb
      refine EV.st rfl ?_
      refine EV.ret rfl ?_
      rw [if_neg (fun q => Int32.not_lt.mpr hb q.2)]
    · have hb : ¬ b ≤ k := of_decide_eq_false hb
      refine EV.st rfl ?_
      refine EV.st rfl ?_
      refine EV.ret rfl ?_
      rw [if_pos ⟨Int32.not_lt.mp hc, Int32.not_le.mp hb⟩]
theorem r_add {bs : Nat} {sa : Nat → Nat} (d : Nat) (a m len : Nat) (s t : Nat) (w : Int32) (f : Nat → Int32) (h : e_H) (hD : [a, m].Nodup) (hba : bs ≤ a) (hbm : bs ≤ m) (hl : len < 61) :
    ev_run tbs bs sa (d + 1) 2 [.ref a, .int w] (wd [a, m] [.inl (0, [.ref m, .ref s, .ref t, .int (nI len)]), .inr (.inl (64, f))] h) none (wd [a, m] [.inl (0, [.ref m, .ref s, .ref t, .int (nI (len + 1))]), .inr (.inl (64, upd f len w))] h) := by
  refine RUN.mk (T := t_X0_add) rfl (Nat.le_of_ble_eq_true rfl) ?_
  refine EV.st rfl ?_
  refine EW.get 0 hD rfl rfl rfl rfl ?_
  refine EV.st rfl ?_
  refine EV.icm rfl (fun hb => ?_) (fun hb => ?_)
  · exact absurd (of_decide_eq_true hb) (nI_ge (b := 61) hl (by decide))
  · refine EV.st rfl ?_
    refine EW.get 0 hD rfl rfl rfl rfl ?_
    refine EV.st rfl ?_
    refine EW.get 0 hD rfl rfl rfl rfl ?_
    refine EV.st rfl ?_
    refine EW.iast 1 len hD rfl rfl rfl hbm rfl (by omega) (Nat.le_of_ble_eq_true rfl) ?_
    refine EV.st rfl ?_
    refine EV.st rfl ?_
    refine EW.get 0 hD rfl rfl rfl rfl ?_
    refine EV.st rfl ?_
    refine EV.st rfl ?_
    refine EW.put 0 hD rfl rfl rfl hba (Nat.le_of_ble_eq_true rfl) rfl ?_
    refine EV.ret rfl ?_
    rw [← nI_1]
    rfl
end
section
/-! SHA-256, as both sides compute it. -/
def us (x b : Int32) : Int32 := (x.toUInt32 >>> (b.toUInt32 &&& Int32.toUInt32 31)).toInt32
def rr (x b : Int32) : Int32 := us x b ||| (x <<< ((32 - b) &&& 31))
def sg0 (x : Int32) : Int32 := rr x 7 ^^^ rr x 18 ^^^ us x 3
def sg1 (x : Int32) : Int32 := rr x 17 ^^^ rr x 19 ^^^ us x 10
/-- the schedule, n places of it made -/
def swi (G : Nat → Int32) : Nat → Nat → Int32
  | 0 => G
  | n + 1 => if 16 ≤ n then upd (swi G n) n (swi G n (n - 16) + sg0 (swi G n (n - 15)) + swi G n (n - 7) + sg1 (swi G n (n - 2))) else swi G n
theorem swi_lo (G : Nat → Int32) : ∀ n, n ≤ 16 → swi G n = G := by
  intro n
  induction n with
  | zero => intro _; rfl
  | succ n ih => intro h; simp only [swi]; rw [if_neg (by omega)]; exact ih (by omega)
theorem swi_congr {G G' : Nat → Int32} (h : ∀ j, j < 16 → G j = G' j) : ∀ n j, (j < n ∨ j < 16) → swi G n j = swi G' n j := by
  intro n
  induction n with
  | zero => intro j hj; exact h j (by omega)
  | succ n ih =>
    intro j hj
    simp only [swi]
    by_cases hn : 16 ≤ n
    · rw [if_pos hn, if_pos hn]
      by_cases e : j = n
      · subst e
        simp only [upd, if_pos]
        rw [ih (j - 16) (by omega), ih (j - 15) (by omega), ih (j - 7) (by omega), ih (j - 2) (by omega)]
      · simp only [upd, if_neg e]
        exact ih j (by omega)
    · rw [if_neg hn, if_neg hn]; exact ih j (by omega)
/-- a round -/
def srd (kk ww : Int32) (st : Nat → Int32) : Nat → Int32 := fun i =>
  if i = 0 then st 7 + (rr (st 4) 6 ^^^ rr (st 4) 11 ^^^ rr (st 4) 25) + ((st 4 &&& st 5) ^^^ ((st 4 ^^^ -1) &&& st 6)) + kk + ww + (rr (st 0) 2 ^^^ rr (st 0) 13 ^^^ rr (st 0) 22) + ((st 0 &&& st 1) ^^^ (st 0 &&& st 2) ^^^ (st 1 &&& st 2))
  else if i = 4 then st 3 + (st 7 + (rr (st 4) 6 ^^^ rr (st 4) 11 ^^^ rr (st 4) 25) + ((st 4 &&& st 5) ^^^ ((st 4 ^^^ -1) &&& st 6)) + kk + ww)
  else st (i - 1)
def srs (K W : Nat → Int32) (st : Nat → Int32) : Nat → Nat → Int32
  | 0 => st
  | n + 1 => srd (K n) (W n) (srs K W st n)
theorem srs_congr {K K' W W' st st' : Nat → Int32} (hK : ∀ j, j < 64 → K j = K' j) (hW : ∀ j, j < 64 → W j = W' j) (hs : ∀ j, j < 8 → st j = st' j) : ∀ n, n ≤ 64 → ∀ j, j < 8 → srs K W st n j = srs K' W' st' n j := by
  intro n
  induction n with
  | zero => intro _ j hj; exact hs j hj
  | succ n ih =>
    intro hn j hj
    have ih := ih (by omega)
    simp only [srs, srd]
    rw [hK n (by omega), hW n (by omega), ih 0 (by omega), ih 1 (by omega), ih 2 (by omega), ih 3 (by omega), ih 4 (by omega), ih 5 (by omega), ih 6 (by omega), ih 7 (by omega), ih (j - 1) (by omega)]
/-- a block -/
def sbk (K H M : Nat → Int32) : Nat → Int32 := fun i => H i + srs K (swi M 64) H 64 i
def sbs (K M H : Nat → Int32) : Nat → Nat → Int32
  | 0 => H
  | b + 1 => sbk K (sbs K M H b) (fun j => M (16 * b + j))
theorem sbs_congr {K K' M M' H H' : Nat → Int32} {N : Nat} (hK : ∀ j, j < 64 → K j = K' j) (hM : ∀ j, j < 16 * N → M j = M' j) (hH : ∀ j, j < 8 → H j = H' j) : ∀ b, b ≤ N → ∀ j, j < 8 → sbs K M H b j = sbs K' M' H' b j := by
  intro b
  induction b with
  | zero => intro _ j hj; exact hH j hj
  | succ b ih =>
    intro hb j hj
    have ih := ih (by omega)
    simp only [sbs, sbk]
    rw [ih j hj, srs_congr hK (fun i hi => swi_congr (fun i hi => hM (16 * b + i) (by omega)) 64 i (Or.inl hi)) ih 64 (by omega) j hj]
/-- how many blocks; the padded message -/
def snb (n : Nat) : Nat := (n + 18) / 16
def spd (f : Nat → Int32) (n : Nat) : Nat → Int32 := fun k => if k < n then f k else if k = 16 * snb n - 1 then nI (32 * n) else if k = n then -2147483648 else 0
def sha (K H : Nat → Int32) (f : Nat → Int32) (n : Nat) : Nat → Int32 := sbs K (spd f n) H (snb n)
theorem sha_congr {K K' H H' f f' : Nat → Int32} {n : Nat} (hK : ∀ j, j < 64 → K j = K' j) (hH : ∀ j, j < 8 → H j = H' j) (hf : ∀ j, j < n → f j = f' j) {j : Nat} (hj : j < 8) : sha K H f n j = sha K' H' f' n j := by
  refine sbs_congr (N := snb n) hK (fun i _ => ?_) hH (snb n) (Nat.le_refl _) j hj
  unfold spd
  by_cases h : i < n
  · rw [if_pos h, if_pos h, hf i h]
  · rw [if_neg h, if_neg h]
section HSH
variable {bs : Nat} {sa : Nat → Nat}
theorem r_turnRight (d : Nat) (x b : Int32) (h : e_H) : ev_run tbs bs sa (d + 1) 8 [.int x, .int b] h (some (.int (rr x b))) h := by
  refine RUN.mk (T := t_X0_turnRight) rfl (Nat.le_of_ble_eq_true rfl) ?_
  repeat refine EV.s rfl rfl rfl ?_
  refine EV.ri rfl rfl ?_
  rfl
theorem r_begin (d : Nat) (a : Nat) (u v w x : Value) (hx : ev_kd x = 0) (h : e_H) (hD : [a].Nodup) (hba : bs ≤ a) : ev_run tbs bs sa (d + 1) 1 [.ref a] (wd [a] [.inl (0, [u, v, w, x])] h) none (wd [a] [.inl (0, [u, v, w, .int 0])] h) := by
  refine RUN.mk (T := t_X0_begin) rfl (Nat.le_of_ble_eq_true rfl) ?_
  repeat refine EV.s rfl rfl rfl ?_
  refine EW.put 0 hD rfl rfl rfl hba (Nat.le_of_ble_eq_true rfl) rfl ?_
  refine EV.ret rfl ?_
  rfl
/-- fillSchedule's loop, at its compare -/
theorem r_fill_loop (d : Nat) (a m s t fr : Nat) (L : Int32) (F G : Nat → Int32) (h : e_H) (hD : [a, m, s].Nodup) (hbs : bs ≤ s) (E : e_C ⊕ (Option Value × e_H) → Prop)
    (hK : E (.inr (none, wd [a, m, s] [.inl (0, [.ref m, .ref s, .ref t, .int L]), .inr (.inl (64, F)), .inr (.inl (64, swi G 64))] h))) :
    ∀ (n k : Nat), k + n = 64 → 16 ≤ k → ∀ Gk, Gk = swi G k → ∀ ki, ki = nI k → ∀ (l3 l4 l5 l6 : Option Value), ev_E tbs bs sa (d + 1) t_X0_fillSchedule E (21, [some (.ref a), some (.int (nI fr)), some (.int ki), l3, l4, l5, l6], [.int 64, .int ki], wd [a, m, s] [.inl (0, [.ref m, .ref s, .ref t, .int L]), .inr (.inl (64, F)), .inr (.inl (64, Gk))] h) := by
  intro n
  induction n with
  | zero =>
    intro k hk h16 Gk hG ki hki l3 l4 l5 l6
    subst hG; subst hki
    have e : k = 64 := by omega
    subst e
    refine EV.icm rfl (fun hc => ?_) (fun hc => ?_)
    · refine EV.ret rfl ?_
      exact hK
    · exact absurd (by decide : (64 : Int32) ≤ nI 64) (of_decide_eq_false hc)
  | succ n ih =>
    intro k hk h16 Gk hG ki hki l3 l4 l5 l6
    subst hG; subst hki
    refine EV.icm rfl (fun hc => ?_) (fun hc => ?_)
    · exact absurd (of_decide_eq_true hc) (nI_ge (b := 64) (by omega) (by decide))
    · repeat (first | refine EV.s rfl rfl rfl ?_ | refine EW.get 0 hD rfl rfl rfl rfl ?_)
      refine EW.iald 2 (k - 15) hD rfl rfl rfl (pk_sub (b := 15) (by omega)) (by omega) (by decide) ?_
      repeat (first | refine EV.s rfl rfl rfl ?_ | refine EW.get 0 hD rfl rfl rfl rfl ?_)
      refine EW.iald 2 (k - 2) hD rfl rfl rfl (pk_sub (b := 2) (by omega)) (by omega) (by decide) ?_
      repeat refine EV.s rfl rfl rfl ?_
      refine EV.call rfl (r_turnRight _ _ _ _) ?_
      repeat refine EV.s rfl rfl rfl ?_
      refine EV.call rfl (r_turnRight _ _ _ _) ?_
      repeat refine EV.s rfl rfl rfl ?_
      refine EV.call rfl (r_turnRight _ _ _ _) ?_
      repeat refine EV.s rfl rfl rfl ?_
      refine EV.call rfl (r_turnRight _ _ _ _) ?_
      repeat (first | refine EV.s rfl rfl rfl ?_ | refine EW.get 0 hD rfl rfl rfl rfl ?_)
      refine EW.iald 2 (k - 16) hD rfl rfl rfl (pk_sub (b := 16) (by omega)) (by omega) (by decide) ?_
      repeat (first | refine EV.s rfl rfl rfl ?_ | refine EW.get 0 hD rfl rfl rfl rfl ?_)
      refine EW.iald 2 (k - 7) hD rfl rfl rfl (pk_sub (b := 7) (by omega)) (by omega) (by decide) ?_
      repeat refine EV.s rfl rfl rfl ?_
      refine EW.iast 2 k hD rfl rfl rfl hbs rfl (by omega) (by decide) ?_
      repeat refine EV.s rfl rfl rfl ?_
      have e : swi G (k + 1) = upd (swi G k) k (swi G k (k - 16) + sg0 (swi G k (k - 15)) + swi G k (k - 7) + sg1 (swi G k (k - 2))) := by simp only [swi]; rw [if_pos h16]
      exact ih (k + 1) (by omega) (by omega) _ e.symm _ (nI_1 k) (some (.int (swi G k (k - 15)))) (some (.int (swi G k (k - 2)))) (some (.int (sg0 (swi G k (k - 15))))) (some (.int (sg1 (swi G k (k - 2)))))
theorem r_fillSchedule (d : Nat) (a m s t fr : Nat) (L : Int32) (F G : Nat → Int32) (h : e_H) (hD : [a, m, s].Nodup) (hbs : bs ≤ s) (hfr : fr + 16 ≤ 64) :
    ev_run tbs bs sa (d + 2) 6 [.ref a, .int (nI fr)] (wd [a, m, s] [.inl (0, [.ref m, .ref s, .ref t, .int L]), .inr (.inl (64, F)), .inr (.inl (64, G))] h) none (wd [a, m, s] [.inl (0, [.ref m, .ref s, .ref t, .int L]), .inr (.inl (64, F)), .inr (.inl (64, swi (va_cpy F G fr 0 16) 64))] h) := by
  refine RUN.mk (T := t_X0_fillSchedule) rfl (Nat.le_of_ble_eq_true rfl) ?_
  repeat (first | refine EV.s rfl rfl rfl ?_ | refine EW.get 0 hD rfl rfl rfl rfl ?_)
  refine EW.cpy 1 2 fr 0 16 hD rfl rfl rfl rfl rfl hbs rfl rfl rfl hfr (by decide) (by decide) (by decide) (by decide) ?_
  repeat refine EV.s rfl rfl rfl ?_
  refine r_fill_loop d a m s t fr L F (va_cpy F G fr 0 16) h hD hbs _ ?_ 48 16 rfl (Nat.le_refl _) _ (swi_lo _ 16 (Nat.le_refl _)).symm _ rfl none none none none
  rfl
end HSH
end
section
section HSH2
variable {bs : Nat} {sa : Nat → Nat}
def ad8 (H g : Nat → Int32) : Nat → Int32 := upd (upd (upd (upd (upd (upd (upd (upd H 0 (H 0 + g 0)) 1 (H 1 + g 1)) 2 (H 2 + g 2)) 3 (H 3 + g 3)) 4 (H 4 + g 4)) 5 (H 5 + g 5)) 6 (H 6 + g 6)) 7 (H 7 + g 7)
theorem ad8_get (H g : Nat → Int32) {i : Nat} (hi : i < 8) : ad8 H g i = H i + g i := by
  have : i = 0 ∨ i = 1 ∨ i = 2 ∨ i = 3 ∨ i = 4 ∨ i = 5 ∨ i = 6 ∨ i = 7 := by omega
  rcases this with rfl | rfl | rfl | rfl | rfl | rfl | rfl | rfl <;> rfl
set_option maxHeartbeats 1000000 in
set_option maxRecDepth 100000 in
/-- compress's loop, at its compare -/
theorem r_comp_loop (d : Nat) (a s t : Nat) (u L : Value) (W H K : Nat → Int32) (h : e_H) (hD : [a, s, t, sa 1].Nodup) (hbt : bs ≤ t) (E : e_C ⊕ (Option Value × e_H) → Prop)
    (hK : ∀ lo, ev_E tbs bs sa (d + 1) t_X0_compress E (213, [some (.ref a), some (.int (srs K W H 64 0)), some (.int (srs K W H 64 1)), some (.int (srs K W H 64 2)), some (.int (srs K W H 64 3)), some (.int (srs K W H 64 4)), some (.int (srs K W H 64 5)), some (.int (srs K W H 64 6)), some (.int (srs K W H 64 7))] ++ lo, [], wd [a, s, t, sa 1] [.inl (0, [u, .ref s, .ref t, L]), .inr (.inl (64, W)), .inr (.inl (8, H)), .inr (.inl (64, K))] h)) :
    ∀ (n k : Nat), k + n = 64 → ∀ g, g = srs K W H k → ∀ ki, ki = nI k → ∀ (l10 l11 l12 l13 l14 : Option Value), ev_E tbs bs sa (d + 1) t_X0_compress E (70, [some (.ref a), some (.int (g 0)), some (.int (g 1)), some (.int (g 2)), some (.int (g 3)), some (.int (g 4)), some (.int (g 5)), some (.int (g 6)), some (.int (g 7)), some (.int ki), l10, l11, l12, l13, l14], [.int 64, .int ki], wd [a, s, t, sa 1] [.inl (0, [u, .ref s, .ref t, L]), .inr (.inl (64, W)), .inr (.inl (8, H)), .inr (.inl (64, K))] h) := by
  intro n
  induction n with
  | zero =>
    intro k hk g hg ki hki l10 l11 l12 l13 l14
    have e : k = 64 := by omega
    subst e; subst hg; subst hki
    refine EV.icm rfl (fun hc => ?_) (fun hc => ?_)
    · exact hK [some (.int (nI 64)), l10, l11, l12, l13, l14]
    · exact absurd (by decide : (64 : Int32) ≤ nI 64) (of_decide_eq_false hc)
  | succ n ih =>
    intro k hk g hg ki hki l10 l11 l12 l13 l14
    subst hki
    refine EV.icm rfl (fun hc => ?_) (fun hc => ?_)
    · exact absurd (of_decide_eq_true hc) (nI_ge (b := 64) (by omega) (by decide))
    · repeat refine EV.s rfl rfl rfl ?_
      refine EV.call rfl (r_turnRight _ _ _ _) ?_
      repeat refine EV.s rfl rfl rfl ?_
      refine EV.call rfl (r_turnRight _ _ _ _) ?_
      repeat refine EV.s rfl rfl rfl ?_
      refine EV.call rfl (r_turnRight _ _ _ _) ?_
      repeat refine EV.s rfl rfl rfl ?_
      refine EW.iald 3 k hD rfl rfl rfl rfl (by omega) (by decide) ?_
      repeat (first | refine EV.s rfl rfl rfl ?_ | refine EW.get 0 hD rfl rfl rfl rfl ?_)
      refine EW.iald 1 k hD rfl rfl rfl rfl (by omega) (by decide) ?_
      repeat refine EV.s rfl rfl rfl ?_
      refine EV.call rfl (r_turnRight _ _ _ _) ?_
      repeat refine EV.s rfl rfl rfl ?_
      refine EV.call rfl (r_turnRight _ _ _ _) ?_
      repeat refine EV.s rfl rfl rfl ?_
      refine EV.call rfl (r_turnRight _ _ _ _) ?_
      repeat refine EV.s rfl rfl rfl ?_
      have e : srd (K k) (W k) g = srs K W H (k + 1) := by rw [hg]; rfl
      exact ih (k + 1) (by omega) (srd (K k) (W k) g) e _ (nI_1 k) _ _ _ _ _
set_option maxHeartbeats 1000000 in
set_option maxRecDepth 100000 in
theorem r_compress (d : Nat) (a s t : Nat) (u L : Value) (W H K : Nat → Int32) (h : e_H) (hD : [a, s, t, sa 1].Nodup) (hbt : bs ≤ t) :
    ev_run tbs bs sa (d + 2) 7 [.ref a] (wd [a, s, t, sa 1] [.inl (0, [u, .ref s, .ref t, L]), .inr (.inl (64, W)), .inr (.inl (8, H)), .inr (.inl (64, K))] h) none (wd [a, s, t, sa 1] [.inl (0, [u, .ref s, .ref t, L]), .inr (.inl (64, W)), .inr (.inl (8, ad8 H (srs K W H 64))), .inr (.inl (64, K))] h) := by
  refine RUN.mk (T := t_X0_compress) rfl (Nat.le_of_ble_eq_true rfl) ?_
  repeat (first | refine EV.s rfl rfl rfl ?_ | refine EW.get 0 hD rfl rfl rfl rfl ?_)
  refine EW.iald 2 0 hD rfl rfl rfl rfl (by omega) (by decide) ?_
  repeat (first | refine EV.s rfl rfl rfl ?_ | refine EW.get 0 hD rfl rfl rfl rfl ?_)
  refine EW.iald 2 1 hD rfl rfl rfl rfl (by omega) (by decide) ?_
  repeat (first | refine EV.s rfl rfl rfl ?_ | refine EW.get 0 hD rfl rfl rfl rfl ?_)
  refine EW.iald 2 2 hD rfl rfl rfl rfl (by omega) (by decide) ?_
  repeat (first | refine EV.s rfl rfl rfl ?_ | refine EW.get 0 hD rfl rfl rfl rfl ?_)
  refine EW.iald 2 3 hD rfl rfl rfl rfl (by omega) (by decide) ?_
  repeat (first | refine EV.s rfl rfl rfl ?_ | refine EW.get 0 hD rfl rfl rfl rfl ?_)
  refine EW.iald 2 4 hD rfl rfl rfl rfl (by omega) (by decide) ?_
  repeat (first | refine EV.s rfl rfl rfl ?_ | refine EW.get 0 hD rfl rfl rfl rfl ?_)
  refine EW.iald 2 5 hD rfl rfl rfl rfl (by omega) (by decide) ?_
  repeat (first | refine EV.s rfl rfl rfl ?_ | refine EW.get 0 hD rfl rfl rfl rfl ?_)
  refine EW.iald 2 6 hD rfl rfl rfl rfl (by omega) (by decide) ?_
  repeat (first | refine EV.s rfl rfl rfl ?_ | refine EW.get 0 hD rfl rfl rfl rfl ?_)
  refine EW.iald 2 7 hD rfl rfl rfl rfl (by omega) (by decide) ?_
  repeat refine EV.s rfl rfl rfl ?_
  refine r_comp_loop d a s t u L W H K h hD hbt _ (fun lo => ?_) 64 0 rfl H rfl _ rfl none none none none none
  repeat (first | refine EV.s rfl rfl rfl ?_ | refine EW.get 0 hD rfl rfl rfl rfl ?_)
  refine EW.iald 2 0 hD rfl rfl rfl rfl (by omega) (by decide) ?_
  repeat refine EV.s rfl rfl rfl ?_
  refine EW.iast 2 0 hD rfl rfl rfl hbt rfl (by omega) (by decide) ?_
  repeat (first | refine EV.s rfl rfl rfl ?_ | refine EW.get 0 hD rfl rfl rfl rfl ?_)
  refine EW.iald 2 1 hD rfl rfl rfl rfl (by omega) (by decide) ?_
  repeat refine EV.s rfl rfl rfl ?_
  refine EW.iast 2 1 hD rfl rfl rfl hbt rfl (by omega) (by decide) ?_
  repeat (first | refine EV.s rfl rfl rfl ?_ | refine EW.get 0 hD rfl rfl rfl rfl ?_)
  refine EW.iald 2 2 hD rfl rfl rfl rfl (by omega) (by decide) ?_
  repeat refine EV.s rfl rfl rfl ?_
  refine EW.iast 2 2 hD rfl rfl rfl hbt rfl (by omega) (by decide) ?_
  repeat (first | refine EV.s rfl rfl rfl ?_ | refine EW.get 0 hD rfl rfl rfl rfl ?_)
  refine EW.iald 2 3 hD rfl rfl rfl rfl (by omega) (by decide) ?_
  repeat refine EV.s rfl rfl rfl ?_
  refine EW.iast 2 3 hD rfl rfl rfl hbt rfl (by omega) (by decide) ?_
  repeat (first | refine EV.s rfl rfl rfl ?_ | refine EW.get 0 hD rfl rfl rfl rfl ?_)
  refine EW.iald 2 4 hD rfl rfl rfl rfl (by omega) (by decide) ?_
  repeat refine EV.s rfl rfl rfl ?_
  refine EW.iast 2 4 hD rfl rfl rfl hbt rfl (by omega) (by decide) ?_
  repeat (first | refine EV.s rfl rfl rfl ?_ | refine EW.get 0 hD rfl rfl rfl rfl ?_)
  refine EW.iald 2 5 hD rfl rfl rfl rfl (by omega) (by decide) ?_
  repeat refine EV.s rfl rfl rfl ?_
  refine EW.iast 2 5 hD rfl rfl rfl hbt rfl (by omega) (by decide) ?_
  repeat (first | refine EV.s rfl rfl rfl ?_ | refine EW.get 0 hD rfl rfl rfl rfl ?_)
  refine EW.iald 2 6 hD rfl rfl rfl rfl (by omega) (by decide) ?_
  repeat refine EV.s rfl rfl rfl ?_
  refine EW.iast 2 6 hD rfl rfl rfl hbt rfl (by omega) (by decide) ?_
  repeat (first | refine EV.s rfl rfl rfl ?_ | refine EW.get 0 hD rfl rfl rfl rfl ?_)
  refine EW.iald 2 7 hD rfl rfl rfl rfl (by omega) (by decide) ?_
  repeat refine EV.s rfl rfl rfl ?_
  refine EW.iast 2 7 hD rfl rfl rfl hbt rfl (by omega) (by decide) ?_
  refine EV.ret rfl ?_
  rfl
end HSH2
end
section
theorem nd_sub {as as1 : List Nat} (hD : as.Nodup) (ps : List Nat) (hp : ps.Nodup) (h : ps.map (fun p => as[p]?) = as1.map some) : as1.Nodup := by
  have hl : ps.length = as1.length := by have := congrArg List.length h; simpa using this
  have key : ∀ (i : Nat) (hi : i < as1.length), as[ps[i]'(by omega)]? = some as1[i] := by
    intro i hi
    have := congrArg (fun l => l[i]?) h
    simp only [List.getElem?_map] at this
    rw [List.getElem?_eq_getElem (by omega), List.getElem?_eq_getElem hi] at this
    simpa using this
  unfold List.Nodup at *
  rw [List.pairwise_iff_getElem] at *
  intro i j hi hj hij e
  have k1 := key i hi
  have k2 := key j hj
  obtain ⟨l1, e1⟩ := List.getElem?_eq_some_iff.mp k1
  obtain ⟨l2, e2⟩ := List.getElem?_eq_some_iff.mp k2
  have hne := hp i j (by omega) (by omega) hij
  rcases Nat.lt_trichotomy (ps[i]'(by omega)) (ps[j]'(by omega)) with q | q | q
  · exact hD _ _ l1 l2 q (by rw [e1, e2, e])
  · exact hne q
  · exact hD _ _ l2 l1 q (by rw [e1, e2, e])
def zf (F : Nat → Int32) (L k : Nat) : Nat → Int32 := fun j => if L ≤ j ∧ j < k then 0 else F j
theorem zf_0 (F : Nat → Int32) (L : Nat) : zf F L L = F := by
  funext j; simp only [zf]; rw [if_neg (by omega)]
theorem zf_s (F : Nat → Int32) {L k : Nat} (h : L ≤ k) : zf F L (k + 1) = upd (zf F L k) k 0 := by
  funext j
  simp only [zf, upd]
  by_cases e : j = k
  · rw [if_pos e, if_pos (by omega)]
  · rw [if_neg e]
    by_cases q : L ≤ j ∧ j < k
    · rw [if_pos q, if_pos (by omega)]
    · rw [if_neg q, if_neg (by omega)]
def pmc (F : Nat → Int32) (L : Nat) : Nat → Int32 := upd (upd (zf F L (16 * snb L)) L (-2147483648)) (16 * snb L - 1) (nI L * 32)
theorem snb_b {L : Nat} : L + 3 ≤ 16 * snb L ∧ 16 * snb L ≤ L + 18 := by unfold snb; omega
theorem snb_64 {L : Nat} (h : L ≤ 61) : 16 * snb L ≤ 64 := by unfold snb; omega
theorem pmc_get {F : Nat → Int32} {L : Nat} {j : Nat} (hj : j < 16 * snb L) : pmc F L j = spd F L j := by
  have hb := snb_b (L := L)
  simp only [pmc, spd, upd, zf]
  by_cases h1 : j < L
  · rw [if_pos h1, if_neg (by omega), if_neg (by omega), if_neg (by omega)]
  · rw [if_neg h1]
    by_cases h2 : j = 16 * snb L - 1
    · rw [if_pos h2, if_pos h2]
      have : nI L * nI 32 = nI (L * 32) := pk_mul L 32
      rw [Nat.mul_comm 32 L, ← this]; rfl
    · rw [if_neg h2, if_neg h2]
      by_cases h3 : j = L
      · rw [if_pos h3, if_pos h3]
      · rw [if_neg h3, if_neg h3, if_pos (by omega)]
section HSH3
variable {bs : Nat} {sa : Nat → Nat}
set_option maxHeartbeats 1000000 in
theorem r_pad_loop (d : Nat) (a m L P : Nat) (u v : Value) (Pi : Int32) (hPi : Pi = nI P) (hP : P ≤ 64) (F : Nat → Int32) (h : e_H) (hD : [a, m].Nodup) (hbm : bs ≤ m) (E : e_C ⊕ (Option Value × e_H) → Prop)
    (hK : ∀ ki, ev_E tbs bs sa d t_X0_padMessage E (41, [some (.ref a), some (.int Pi), some (.int ki)], [], wd [a, m] [.inl (0, [.ref m, u, v, .int (nI L)]), .inr (.inl (64, zf F L P))] h)) :
    ∀ (n k : Nat), k + n = P → L ≤ k → ∀ Z, Z = zf F L k → ∀ ki, ki = nI k → ev_E tbs bs sa d t_X0_padMessage E (25, [some (.ref a), some (.int Pi), some (.int ki)], [.int Pi, .int ki], wd [a, m] [.inl (0, [.ref m, u, v, .int (nI L)]), .inr (.inl (64, Z))] h) := by
  intro n
  induction n with
  | zero =>
    intro k hk hLk Z hZ ki hki
    have e : k = P := by omega
    subst e; subst hZ; subst hki
    refine EV.icm rfl (fun hc => ?_) (fun hc => ?_)
    · exact hK _
    · exact absurd (by rw [hPi]; exact nI_le (Nat.le_refl _) (by omega)) (of_decide_eq_false hc)
  | succ n ih =>
    intro k hk hLk Z hZ ki hki
    subst hZ; subst hki
    refine EV.icm rfl (fun hc => ?_) (fun hc => ?_)
    · exact absurd (of_decide_eq_true hc) (by rw [hPi]; exact nI_ge (by omega) (by omega))
    · repeat (first | refine EV.s rfl rfl rfl ?_ | refine EW.get 0 hD rfl rfl rfl rfl ?_)
      refine EW.iast 1 k hD rfl rfl rfl hbm rfl (by omega) (by decide) ?_
      repeat refine EV.s rfl rfl rfl ?_
      exact ih (k + 1) (by omega) (by omega) _ (zf_s F hLk).symm _ (nI_1 k)
set_option maxHeartbeats 1000000 in
theorem r_padMessage (d : Nat) (a m L : Nat) (u v : Value) (F : Nat → Int32) (h : e_H) (hD : [a, m].Nodup) (hbm : bs ≤ m) (hL : L ≤ 61) :
    ev_run tbs bs sa (d + 1) 5 [.ref a] (wd [a, m] [.inl (0, [.ref m, u, v, .int (nI L)]), .inr (.inl (64, F))] h) (some (.int (nI (16 * snb L)))) (wd [a, m] [.inl (0, [.ref m, u, v, .int (nI L)]), .inr (.inl (64, pmc F L))] h) := by
  have hb := snb_b (L := L)
  have h64 := snb_64 hL
  have hPi : ((nI L + 3) + 16 - 1) / 16 * 16 = nI (16 * snb L) := by
    have e1 : nI L + 3 = nI (L + 3) := nI_add L 3
    have e2 : nI (L + 3) + 16 = nI (L + 3 + 16) := nI_add _ 16
    have e3 : nI (L + 3 + 16) - 1 = nI (L + 3 + 16 - 1) := pk_sub (b := 1) (by omega)
    have e4 : nI (L + 3 + 16 - 1) / 16 = nI ((L + 3 + 16 - 1) / 16) := pk_div (d := 16) (by omega) (by omega) (by omega)
    have e5 : nI ((L + 3 + 16 - 1) / 16) * 16 = nI ((L + 3 + 16 - 1) / 16 * 16) := pk_mul _ 16
    rw [e1, e2, e3, e4, e5, Nat.mul_comm]; rfl
  refine RUN.mk (T := t_X0_padMessage) rfl (Nat.le_of_ble_eq_true rfl) ?_
  repeat (first | refine EV.s rfl rfl rfl ?_ | refine EW.get 0 hD rfl rfl rfl rfl ?_)
  refine r_pad_loop d a m L (16 * snb L) u v _ hPi h64 F h hD hbm _ (fun ki => ?_) (16 * snb L - L) L (by omega) (Nat.le_refl _) F (zf_0 F L).symm _ rfl
  repeat (first | refine EV.s rfl rfl rfl ?_ | refine EW.get 0 hD rfl rfl rfl rfl ?_)
  refine EW.iast 1 L hD rfl rfl rfl hbm rfl (by omega) (by decide) ?_
  repeat (first | refine EV.s rfl rfl rfl ?_ | refine EW.get 0 hD rfl rfl rfl rfl ?_)
  refine EW.iast 1 (16 * snb L - 1) hD rfl rfl rfl hbm (by rw [← pk_sub (b := 1) (by omega), ← hPi]; rfl) (by omega) (by decide) ?_
  repeat refine EV.s rfl rfl rfl ?_
  refine EV.ri rfl rfl ?_
  rw [← hPi]
  rfl
theorem cpy_s (W F : Nat → Int32) (L k : Nat) : va_cpy W F 0 L (k + 1) = upd (va_cpy W F 0 L k) (L + k) (W k) := by
  funext j
  simp only [va_cpy, upd]
  by_cases e : j = L + k
  · rw [if_pos e, if_pos (by omega)]; congr 1; omega
  · rw [if_neg e]
    by_cases q : L ≤ j ∧ j < L + k
    · rw [if_pos q, if_pos (by omega)]
    · rw [if_neg q, if_neg (by omega)]
theorem cpy_0 (W F : Nat → Int32) (L : Nat) : va_cpy W F 0 L 0 = F := by
  funext j; simp only [va_cpy]; rw [if_neg (by omega)]
set_option maxHeartbeats 1000000 in
theorem r_addAll_loop (d : Nat) (a m s t w L N M : Nat) (F W : Nat → Int32) (h : e_H) (hD : [a, m, w].Nodup) (hba : bs ≤ a) (hbm : bs ≤ m) (hL : L + N ≤ 61) (hN : N ≤ M) (hM : M < 2 ^ 31) (E : e_C ⊕ (Option Value × e_H) → Prop)
    (hK : E (.inr (none, wd [a, m, w] [.inl (0, [.ref m, .ref s, .ref t, .int (nI (L + N))]), .inr (.inl (64, va_cpy W F 0 L N)), .inr (.inl (M, W))] h))) :
    ∀ (n k : Nat), k + n = N → ∀ Z, Z = va_cpy W F 0 L k → ∀ ki, ki = nI k → ev_E tbs bs sa (d + 1) t_X0_addAll E (4, [some (.ref a), some (.ref w), some (.int (nI N)), some (.int ki)], [.int (nI N), .int ki], wd [a, m, w] [.inl (0, [.ref m, .ref s, .ref t, .int (nI (L + k))]), .inr (.inl (64, Z)), .inr (.inl (M, W))] h) := by
  intro n
  induction n with
  | zero =>
    intro k hk Z hZ ki hki
    have e : k = N := by omega
    subst e; subst hZ; subst hki
    refine EV.icm rfl (fun hc => ?_) (fun hc => ?_)
    · refine EV.ret rfl ?_
      exact hK
    · exact absurd (nI_le (Nat.le_refl _) (by omega)) (of_decide_eq_false hc)
  | succ n ih =>
    intro k hk Z hZ ki hki
    subst hZ; subst hki
    refine EV.icm rfl (fun hc => ?_) (fun hc => ?_)
    · exact absurd (of_decide_eq_true hc) (nI_ge (by omega) (by omega))
    · repeat refine EV.s rfl rfl rfl ?_
      refine EW.iald 2 k hD rfl rfl rfl rfl (by omega) hM ?_
      refine EW.cv 0 [0, 1] hD rfl (fun h0 => r_add d a m (L + k) s t (W k) (va_cpy W F 0 L k) h0 (nd_sub hD [0, 1] (by decide) rfl) hba hbm (by omega)) rfl rfl rfl rfl (Nat.le_of_ble_eq_true rfl) (Nat.le_of_ble_eq_true rfl) rfl rfl rfl rfl ?_
      repeat refine EV.s rfl rfl rfl ?_
      exact ih (k + 1) (by omega) _ (cpy_s W F L k).symm _ (nI_1 k)
set_option maxHeartbeats 1000000 in
theorem r_addAll (d : Nat) (a m s t w L N M : Nat) (F W : Nat → Int32) (h : e_H) (hD : [a, m, w].Nodup) (hba : bs ≤ a) (hbm : bs ≤ m) (hL : L + N ≤ 61) (hN : N ≤ M) (hM : M < 2 ^ 31) :
    ev_run tbs bs sa (d + 2) 3 [.ref a, .ref w, .int (nI N)] (wd [a, m, w] [.inl (0, [.ref m, .ref s, .ref t, .int (nI L)]), .inr (.inl (64, F)), .inr (.inl (M, W))] h) none (wd [a, m, w] [.inl (0, [.ref m, .ref s, .ref t, .int (nI (L + N))]), .inr (.inl (64, va_cpy W F 0 L N)), .inr (.inl (M, W))] h) := by
  refine RUN.mk (T := t_X0_addAll) rfl (Nat.le_of_ble_eq_true rfl) ?_
  repeat refine EV.s rfl rfl rfl ?_
  refine r_addAll_loop d a m s t w L N M F W h hD hba hbm hL hN hM _ ?_ N 0 (by omega) F (cpy_0 W F L).symm _ rfl
  rfl
end HSH3
end
section
section HSH4
variable {bs : Nat} {sa : Nat → Nat}
theorem cpy_lo {f g : Nat → Int32} {sp n j : Nat} (h : j < n) : va_cpy f g sp 0 n j = f (sp + j) := by
  simp only [va_cpy]; rw [if_pos (by omega)]; congr 1
set_option maxHeartbeats 1000000 in
theorem r_fin_loop (d : Nat) (a m s t g L N at_ nb P : Nat) (hP : P = 16 * nb) (h64 : P ≤ 64) (M I K D H0 : Nat → Int32) (h : e_H) (hD : [a, m, s, t, sa 0, sa 1, g].Nodup) (hbs : bs ≤ s) (hbt : bs ≤ t) (E : e_C ⊕ (Option Value × e_H) → Prop)
    (hK : ∀ G Hf fi, (∀ i, i < 8 → Hf i = sbs K M H0 nb i) → ev_E tbs bs sa (d + 2) t_X0_finish E (44, [some (.ref a), some (.ref g), some (.int (nI at_)), some (.int (nI P)), some (.int fi)], [], wd [a, m, s, t, sa 0, sa 1, g] [.inl (0, [.ref m, .ref s, .ref t, .int (nI L)]), .inr (.inl (64, M)), .inr (.inl (64, G)), .inr (.inl (8, Hf)), .inr (.inl (8, I)), .inr (.inl (64, K)), .inr (.inl (N, D))] h)) :
    ∀ (n b : Nat), b + n = nb → ∀ G Hb, (∀ i, i < 8 → Hb i = sbs K M H0 b i) → ∀ fi, fi = nI (16 * b) → ev_E tbs bs sa (d + 2) t_X0_finish E (25, [some (.ref a), some (.ref g), some (.int (nI at_)), some (.int (nI P)), some (.int fi)], [.int (nI P), .int fi], wd [a, m, s, t, sa 0, sa 1, g] [.inl (0, [.ref m, .ref s, .ref t, .int (nI L)]), .inr (.inl (64, M)), .inr (.inl (64, G)), .inr (.inl (8, Hb)), .inr (.inl (8, I)), .inr (.inl (64, K)), .inr (.inl (N, D))] h) := by
  intro n
  induction n with
  | zero =>
    intro b hb G Hb hH fi hfi
    have e : b = nb := by omega
    subst e; subst hfi
    refine EV.icm rfl (fun hc => ?_) (fun hc => ?_)
    · exact hK G Hb _ hH
    · exact absurd (by rw [hP]; exact nI_le (Nat.le_refl _) (by omega)) (of_decide_eq_false hc)
  | succ n ih =>
    intro b hb G Hb hH fi hfi
    subst hfi
    refine EV.icm rfl (fun hc => ?_) (fun hc => ?_)
    · exact absurd (of_decide_eq_true hc) (nI_ge (by omega) (by omega))
    · repeat refine EV.s rfl rfl rfl ?_
      refine EW.cv 0 [0, 1, 2] hD rfl (fun h0 => r_fillSchedule d a m s t (16 * b) (nI L) M G h0 (nd_sub hD [0, 1, 2] (by decide) rfl) hbs (by omega)) rfl rfl rfl rfl (Nat.le_of_ble_eq_true rfl) (Nat.le_of_ble_eq_true rfl) rfl rfl rfl rfl ?_
      repeat refine EV.s rfl rfl rfl ?_
      refine EW.cv 0 [0, 2, 3, 5] hD rfl (fun h0 => r_compress d a s t (.ref m) (.int (nI L)) (swi (va_cpy M G (16 * b) 0 16) 64) Hb K h0 (nd_sub hD [0, 2, 3, 5] (by decide) rfl) hbt) rfl rfl rfl rfl (Nat.le_of_ble_eq_true rfl) (Nat.le_of_ble_eq_true rfl) rfl rfl rfl rfl ?_
      repeat refine EV.s rfl rfl rfl ?_
      refine ih (b + 1) (by omega) _ _ (fun i hi => ?_) _ (nI_add (16 * b) 16)
      rw [ad8_get _ _ hi]
      show _ = sbs K M H0 b i + srs K (swi (fun j => M (16 * b + j)) 64) (sbs K M H0 b) 64 i
      rw [hH i hi, srs_congr (fun _ _ => rfl) (fun j hj => swi_congr (fun q hq => cpy_lo hq) 64 j (Or.inl hj)) hH 64 (Nat.le_refl _) i hi]
set_option maxHeartbeats 1000000 in
theorem r_finish (d : Nat) (a m s t g L N at_ : Nat) (F G H I K D : Nat → Int32) (hD : [a, m, s, t, sa 0, sa 1, g].Nodup) (hba : bs ≤ a) (hbm : bs ≤ m) (hbs : bs ≤ s) (hbt : bs ≤ t) (hbg : bs ≤ g) (hL : L ≤ 61) (hN : at_ + 8 ≤ N) (hN2 : N < 2 ^ 31) :
    CT bs sa (d + 3) 4 [.ref a, .ref g, .int (nI at_)] [a, m, s, t, sa 0, sa 1, g] [.inl (0, [.ref m, .ref s, .ref t, .int (nI L)]), .inr (.inl (64, F)), .inr (.inl (64, G)), .inr (.inl (8, H)), .inr (.inl (8, I)), .inr (.inl (64, K)), .inr (.inl (N, D))]
      (fun rv o => rv = none ∧ ∃ G' H', o = [.inl (0, [.ref m, .ref s, .ref t, .int (nI L)]), .inr (.inl (64, pmc F L)), .inr (.inl (64, G')), .inr (.inl (8, H')), .inr (.inl (8, I)), .inr (.inl (64, K)), .inr (.inl (N, va_cpy (sha K I F L) D 0 at_ 8))]) := by
  refine CT.mk (T := t_X0_finish) rfl (Nat.le_of_ble_eq_true rfl) (fun h => ?_)
  repeat refine EV.s rfl rfl rfl ?_
  refine EW.cv 0 [0, 1] hD rfl (fun h0 => r_padMessage (d + 1) a m L (.ref s) (.ref t) F h0 (nd_sub hD [0, 1] (by decide) rfl) hbm hL) rfl rfl rfl rfl (Nat.le_of_ble_eq_true rfl) (Nat.le_of_ble_eq_true rfl) rfl rfl rfl rfl ?_
  repeat (first | refine EV.s rfl rfl rfl ?_ | refine EW.get 0 hD rfl rfl rfl rfl ?_)
  refine EW.cpy 4 3 0 0 8 hD rfl rfl rfl rfl rfl hbt rfl rfl rfl (by decide) (by decide) (by decide) (by decide) (by decide) ?_
  repeat refine EV.s rfl rfl rfl ?_
  refine r_fin_loop d a m s t g L N at_ (snb L) (16 * snb L) rfl (snb_64 hL) (pmc F L) I K D (va_cpy I H 0 0 8) h hD hbs hbt _ (fun G' H' fi hH => ?_) (snb L) 0 (by omega) G _ (fun _ _ => rfl) _ rfl
  repeat (first | refine EV.s rfl rfl rfl ?_ | refine EW.get 0 hD rfl rfl rfl rfl ?_)
  refine EW.cpy 3 6 0 at_ 8 hD rfl rfl rfl rfl rfl hbg rfl rfl rfl (by decide) hN (by decide) hN2 (by decide) ?_
  refine EV.ret rfl ⟨_, _, rfl, _, ⟨⟨rfl, G', H', ?_⟩, rfl⟩, rfl⟩
  have e : va_cpy H' D 0 at_ 8 = va_cpy (sha K I F L) D 0 at_ 8 := by
    funext j
    simp only [va_cpy]
    by_cases q : at_ ≤ j ∧ j < at_ + 8
    · rw [if_pos q, if_pos q, hH _ (by omega)]
      exact sbs_congr (N := snb L) (fun _ _ => rfl) (fun i hi => pmc_get hi) (fun i hi => by rw [cpy_lo hi]; congr 1; omega) (snb L) (Nat.le_refl _) _ (by omega)
    · rw [if_neg q, if_neg q]
  rw [← e]
  rfl
end HSH4
end
section
/-! ChaCha20's block, as both sides compute it; the Sealer's methods. -/
def rl (x b : Int32) : Int32 := (x <<< (b &&& 31)) ||| us x (32 - b)
theorem rl_16 (x : Int32) : rl x 16 = rr x 16 := by
  unfold rl rr; rw [Int32.or_comm, show (32 - 16 : Int32) = 16 from by decide]
theorem rl_12 (x : Int32) : rl x 12 = rr x 20 := by
  unfold rl rr; rw [Int32.or_comm, show (32 - 12 : Int32) = 20 from by decide, show (32 - 20 : Int32) = 12 from by decide]
theorem rl_8 (x : Int32) : rl x 8 = rr x 24 := by
  unfold rl rr; rw [Int32.or_comm, show (32 - 8 : Int32) = 24 from by decide, show (32 - 24 : Int32) = 8 from by decide]
theorem rl_7 (x : Int32) : rl x 7 = rr x 25 := by
  unfold rl rr; rw [Int32.or_comm, show (32 - 7 : Int32) = 25 from by decide, show (32 - 25 : Int32) = 7 from by decide]
def qa (B : Nat → Int32) (a b : Nat) : Nat → Int32 := upd B a (B a + B b)
def qx (B : Nat → Int32) (d a : Nat) (r : Int32) : Nat → Int32 := upd B d (rr (B d ^^^ B a) r)
def qr (B : Nat → Int32) (a b c d : Nat) : Nat → Int32 := qx (qa (qx (qa (qx (qa (qx (qa B a b) d a 16) c d) b c 20) a b) d a 24) c d) b c 25
def dr (B : Nat → Int32) : Nat → Int32 := qr (qr (qr (qr (qr (qr (qr (qr B 0 4 8 12) 1 5 9 13) 2 6 10 14) 3 7 11 15) 0 5 10 15) 1 6 11 12) 2 7 8 13) 3 4 9 14
def drs (B : Nat → Int32) : Nat → Nat → Int32
  | 0 => B
  | n + 1 => dr (drs B n)
/-- two rows that are alike in their first 16 places -/
def al (B C : Nat → Int32) : Prop := ∀ k, k < 16 → B k = C k
theorem qa_al {B C : Nat → Int32} {a b : Nat} (h : al B C) (ha : a < 16) (hb : b < 16) : al (qa B a b) (qa C a b) := by
  intro k hk
  simp only [qa, upd]
  rw [h a ha, h b hb, h k hk]
theorem qx_al {B C : Nat → Int32} {d a : Nat} {r : Int32} (h : al B C) (hd : d < 16) (ha : a < 16) : al (qx B d a r) (qx C d a r) := by
  intro k hk
  simp only [qx, upd]
  rw [h a ha, h d hd, h k hk]
theorem qr_al {B C : Nat → Int32} {a b c d : Nat} (h : al B C) (ha : a < 16) (hb : b < 16) (hc : c < 16) (hd : d < 16) : al (qr B a b c d) (qr C a b c d) :=
  qx_al (qa_al (qx_al (qa_al (qx_al (qa_al (qx_al (qa_al h ha hb) hd ha) hc hd) hb hc) ha hb) hd ha) hc hd) hb hc
theorem dr_al {B C : Nat → Int32} (h : al B C) : al (dr B) (dr C) := by
  unfold dr
  refine qr_al (qr_al (qr_al (qr_al (qr_al (qr_al (qr_al (qr_al h ?_ ?_ ?_ ?_) ?_ ?_ ?_ ?_) ?_ ?_ ?_ ?_) ?_ ?_ ?_ ?_) ?_ ?_ ?_ ?_) ?_ ?_ ?_ ?_) ?_ ?_ ?_ ?_) ?_ ?_ ?_ ?_ <;> decide
theorem drs_al {B C : Nat → Int32} (h : al B C) : ∀ n, al (drs B n) (drs C n) := by
  intro n
  induction n with
  | zero => exact h
  | succ n ih => exact dr_al ih
/-- the block's first words -/
def cst (C key : Nat → Int32) (ct u l : Int32) : Nat → Int32 := fun k => if k < 4 then C k else if k < 12 then key (k - 4) else if k = 12 then ct else if k = 13 then 0 else if k = 14 then u else l
def cha (C key : Nat → Int32) (ct u l : Int32) : Nat → Int32 := fun k => drs (cst C key ct u l) 10 k + cst C key ct u l k
section CHA
variable {bs : Nat} {sa : Nat → Nat}
theorem r_turnLeft (d : Nat) (x b : Int32) (h : e_H) : ev_run tbs bs sa (d + 1) 33 [.int x, .int b] h (some (.int (rl x b))) h := by
  refine RUN.mk (T := t_X3_turnLeft) rfl (Nat.le_of_ble_eq_true rfl) ?_
  repeat refine EV.s rfl rfl rfl ?_
  refine EV.ri rfl rfl ?_
  rfl
theorem r_tl (d : Nat) (b c : Int32) (hb : ∀ x, rl x b = rr x c) (x : Int32) (h : e_H) : ev_run tbs bs sa (d + 1) 33 [.int x, .int b] h (some (.int (rr x c))) h := by
  rw [← hb x]; exact r_turnLeft d x b h
set_option maxHeartbeats 1000000 in
theorem r_mixQuarter (d : Nat) (z bl a b c e : Nat) (v0 v1 v2 v3 v4 : Value) (B : Nat → Int32) (h : e_H) (hD : [z, bl].Nodup) (hbb : bs ≤ bl) (ha : a < 16) (hb : b < 16) (hc : c < 16) (he : e < 16) :
    ev_run tbs bs sa (d + 2) 32 [.ref z, .int (nI a), .int (nI b), .int (nI c), .int (nI e)] (wd [z, bl] [.inl (3, [v0, v1, v2, v3, v4, .ref bl]), .inr (.inl (16, B))] h) none (wd [z, bl] [.inl (3, [v0, v1, v2, v3, v4, .ref bl]), .inr (.inl (16, qr B a b c e))] h) := by
  refine RUN.mk (T := t_X3_mixQuarter) rfl (Nat.le_of_ble_eq_true rfl) ?_
  repeat (first | refine EV.s rfl rfl rfl ?_ | refine EW.get 0 hD rfl rfl rfl rfl ?_)
  refine EW.iald 1 a hD rfl rfl rfl rfl ha (by decide) ?_
  repeat (first | refine EV.s rfl rfl rfl ?_ | refine EW.get 0 hD rfl rfl rfl rfl ?_)
  refine EW.iald 1 b hD rfl rfl rfl rfl hb (by decide) ?_
  repeat refine EV.s rfl rfl rfl ?_
  refine EW.iast 1 a hD rfl rfl rfl hbb rfl ha (by decide) ?_
  repeat (first | refine EV.s rfl rfl rfl ?_ | refine EW.get 0 hD rfl rfl rfl rfl ?_)
  refine EW.iald 1 e hD rfl rfl rfl rfl he (by decide) ?_
  repeat (first | refine EV.s rfl rfl rfl ?_ | refine EW.get 0 hD rfl rfl rfl rfl ?_)
  refine EW.iald 1 a hD rfl rfl rfl rfl ha (by decide) ?_
  repeat refine EV.s rfl rfl rfl ?_
  refine EV.call rfl (r_tl _ _ _ rl_16 _ _) ?_
  refine EW.iast 1 e hD rfl rfl rfl hbb rfl he (by decide) ?_
  repeat (first | refine EV.s rfl rfl rfl ?_ | refine EW.get 0 hD rfl rfl rfl rfl ?_)
  refine EW.iald 1 c hD rfl rfl rfl rfl hc (by decide) ?_
  repeat (first | refine EV.s rfl rfl rfl ?_ | refine EW.get 0 hD rfl rfl rfl rfl ?_)
  refine EW.iald 1 e hD rfl rfl rfl rfl he (by decide) ?_
  repeat refine EV.s rfl rfl rfl ?_
  refine EW.iast 1 c hD rfl rfl rfl hbb rfl hc (by decide) ?_
  repeat (first | refine EV.s rfl rfl rfl ?_ | refine EW.get 0 hD rfl rfl rfl rfl ?_)
  refine EW.iald 1 b hD rfl rfl rfl rfl hb (by decide) ?_
  repeat (first | refine EV.s rfl rfl rfl ?_ | refine EW.get 0 hD rfl rfl rfl rfl ?_)
  refine EW.iald 1 c hD rfl rfl rfl rfl hc (by decide) ?_
  repeat refine EV.s rfl rfl rfl ?_
  refine EV.call rfl (r_tl _ _ _ rl_12 _ _) ?_
  refine EW.iast 1 b hD rfl rfl rfl hbb rfl hb (by decide) ?_
  repeat (first | refine EV.s rfl rfl rfl ?_ | refine EW.get 0 hD rfl rfl rfl rfl ?_)
  refine EW.iald 1 a hD rfl rfl rfl rfl ha (by decide) ?_
  repeat (first | refine EV.s rfl rfl rfl ?_ | refine EW.get 0 hD rfl rfl rfl rfl ?_)
  refine EW.iald 1 b hD rfl rfl rfl rfl hb (by decide) ?_
  repeat refine EV.s rfl rfl rfl ?_
  refine EW.iast 1 a hD rfl rfl rfl hbb rfl ha (by decide) ?_
  repeat (first | refine EV.s rfl rfl rfl ?_ | refine EW.get 0 hD rfl rfl rfl rfl ?_)
  refine EW.iald 1 e hD rfl rfl rfl rfl he (by decide) ?_
  repeat (first | refine EV.s rfl rfl rfl ?_ | refine EW.get 0 hD rfl rfl rfl rfl ?_)
  refine EW.iald 1 a hD rfl rfl rfl rfl ha (by decide) ?_
  repeat refine EV.s rfl rfl rfl ?_
  refine EV.call rfl (r_tl _ _ _ rl_8 _ _) ?_
  refine EW.iast 1 e hD rfl rfl rfl hbb rfl he (by decide) ?_
  repeat (first | refine EV.s rfl rfl rfl ?_ | refine EW.get 0 hD rfl rfl rfl rfl ?_)
  refine EW.iald 1 c hD rfl rfl rfl rfl hc (by decide) ?_
  repeat (first | refine EV.s rfl rfl rfl ?_ | refine EW.get 0 hD rfl rfl rfl rfl ?_)
  refine EW.iald 1 e hD rfl rfl rfl rfl he (by decide) ?_
  repeat refine EV.s rfl rfl rfl ?_
  refine EW.iast 1 c hD rfl rfl rfl hbb rfl hc (by decide) ?_
  repeat (first | refine EV.s rfl rfl rfl ?_ | refine EW.get 0 hD rfl rfl rfl rfl ?_)
  refine EW.iald 1 b hD rfl rfl rfl rfl hb (by decide) ?_
  repeat (first | refine EV.s rfl rfl rfl ?_ | refine EW.get 0 hD rfl rfl rfl rfl ?_)
  refine EW.iald 1 c hD rfl rfl rfl rfl hc (by decide) ?_
  repeat refine EV.s rfl rfl rfl ?_
  refine EV.call rfl (r_tl _ _ _ rl_7 _ _) ?_
  refine EW.iast 1 b hD rfl rfl rfl hbb rfl hb (by decide) ?_
  refine EV.ret rfl ?_
  rfl
end CHA
end
section
def adk (f g : Nat → Int32) (k : Nat) : Nat → Int32 := fun j => if j < k then f j + g j else f j
theorem adk_s (f g : Nat → Int32) (k : Nat) : adk f g (k + 1) = upd (adk f g k) k (adk f g k k + g k) := by
  funext j
  simp only [adk, upd]
  by_cases e : j = k
  · subst e; rw [if_pos rfl, if_pos (by omega), if_neg (by omega)]
  · rw [if_neg e]
    by_cases q : j < k
    · rw [if_pos q, if_pos (by omega)]
    · rw [if_neg q, if_neg (by omega)]
theorem adk_0 (f g : Nat → Int32) : adk f g 0 = f := by
  funext j; simp only [adk]; rw [if_neg (by omega)]
def stc (C key S : Nat → Int32) (ct u l : Int32) : Nat → Int32 := upd (upd (upd (upd (va_cpy key (va_cpy C S 0 0 4) 0 4 8) 12 ct) 13 0) 14 u) 15 l
theorem stc_al (C key S : Nat → Int32) (ct u l : Int32) : al (stc C key S ct u l) (cst C key ct u l) := by
  intro k hk
  simp only [stc, cst, upd, va_cpy]
  by_cases h4 : k < 4
  · rw [if_neg (by omega), if_neg (by omega), if_neg (by omega), if_neg (by omega), if_neg (by omega), if_pos (by omega), if_pos h4]; congr 1; omega
  · rw [if_neg h4]
    by_cases h12 : k < 12
    · rw [if_neg (by omega), if_neg (by omega), if_neg (by omega), if_neg (by omega), if_pos (by omega), if_pos h12]; congr 1; omega
    · rw [if_neg h12]
      have : k = 12 ∨ k = 13 ∨ k = 14 ∨ k = 15 := by omega
      rcases this with rfl | rfl | rfl | rfl <;> simp
section BLK
variable {bs : Nat} {sa : Nat → Nat}
set_option maxHeartbeats 2000000 in
theorem r_mb_loop1 (d : Nat) (z ky stt bl : Nat) (ct u l : Int32) (v0 v2 v3 : Value) (key S B C : Nat → Int32) (h : e_H) (hD : [z, ky, stt, bl, sa 2].Nodup) (hbb : bs ≤ bl) (E : e_C ⊕ (Option Value × e_H) → Prop)
    (hK : ∀ ki, ev_E tbs bs sa (d + 2) t_X3_makeBlock E (175, [some (.ref z), some (.int ct), some (.int u), some (.int l), some (.int ki)], [], wd [z, ky, stt, bl, sa 2] [.inl (3, [v0, .ref ky, v2, v3, .ref stt, .ref bl]), .inr (.inl (8, key)), .inr (.inl (16, S)), .inr (.inl (16, drs B 10)), .inr (.inl (4, C))] h)) :
    ∀ (n k : Nat), k + n = 10 → ∀ Z, Z = drs B k → ∀ ki, ki = nI k → ev_E tbs bs sa (d + 2) t_X3_makeBlock E (82, [some (.ref z), some (.int ct), some (.int u), some (.int l), some (.int ki)], [.int 10, .int ki], wd [z, ky, stt, bl, sa 2] [.inl (3, [v0, .ref ky, v2, v3, .ref stt, .ref bl]), .inr (.inl (8, key)), .inr (.inl (16, S)), .inr (.inl (16, Z)), .inr (.inl (4, C))] h) := by
  intro n
  induction n with
  | zero =>
    intro k hk Z hZ ki hki
    have e : k = 10 := by omega
    subst e; subst hZ; subst hki
    refine EV.icm rfl (fun hc => ?_) (fun hc => ?_)
    · exact hK _
    · exact absurd (by decide : (10 : Int32) ≤ nI 10) (of_decide_eq_false hc)
  | succ n ih =>
    intro k hk Z hZ ki hki
    subst hki
    refine EV.icm rfl (fun hc => ?_) (fun hc => ?_)
    · exact absurd (of_decide_eq_true hc) (nI_ge (b := 10) (by omega) (by decide))
    · have hd2 : [z, bl].Nodup := nd_sub hD [0, 3] (by decide) rfl
      have cq : ∀ (a b c e : Nat) (ha : a < 16) (hb : b < 16) (hc : c < 16) (he : e < 16) (B : Nat → Int32) (h0 : e_H), ev_run tbs bs sa (d + 2) 32 [.ref z, .int (nI a), .int (nI b), .int (nI c), .int (nI e)] (wd [z, bl] [.inl (3, [v0, .ref ky, v2, v3, .ref stt, .ref bl]), .inr (.inl (16, B))] h0) none (wd [z, bl] [.inl (3, [v0, .ref ky, v2, v3, .ref stt, .ref bl]), .inr (.inl (16, qr B a b c e))] h0) := fun a b c e ha hb hc he B h0 => r_mixQuarter d z bl a b c e v0 (.ref ky) v2 v3 (.ref stt) B h0 hd2 hbb ha hb hc he
      repeat refine EV.s rfl rfl rfl ?_
      refine EW.cv 0 [0, 3] hD rfl (cq 0 4 8 12 (by decide) (by decide) (by decide) (by decide) _) rfl rfl rfl rfl (Nat.le_of_ble_eq_true rfl) (Nat.le_of_ble_eq_true rfl) rfl rfl rfl rfl ?_
      repeat refine EV.s rfl rfl rfl ?_
      refine EW.cv 0 [0, 3] hD rfl (cq 1 5 9 13 (by decide) (by decide) (by decide) (by decide) _) rfl rfl rfl rfl (Nat.le_of_ble_eq_true rfl) (Nat.le_of_ble_eq_true rfl) rfl rfl rfl rfl ?_
      repeat refine EV.s rfl rfl rfl ?_
      refine EW.cv 0 [0, 3] hD rfl (cq 2 6 10 14 (by decide) (by decide) (by decide) (by decide) _) rfl rfl rfl rfl (Nat.le_of_ble_eq_true rfl) (Nat.le_of_ble_eq_true rfl) rfl rfl rfl rfl ?_
      repeat refine EV.s rfl rfl rfl ?_
      refine EW.cv 0 [0, 3] hD rfl (cq 3 7 11 15 (by decide) (by decide) (by decide) (by decide) _) rfl rfl rfl rfl (Nat.le_of_ble_eq_true rfl) (Nat.le_of_ble_eq_true rfl) rfl rfl rfl rfl ?_
      repeat refine EV.s rfl rfl rfl ?_
      refine EW.cv 0 [0, 3] hD rfl (cq 0 5 10 15 (by decide) (by decide) (by decide) (by decide) _) rfl rfl rfl rfl (Nat.le_of_ble_eq_true rfl) (Nat.le_of_ble_eq_true rfl) rfl rfl rfl rfl ?_
      repeat refine EV.s rfl rfl rfl ?_
      refine EW.cv 0 [0, 3] hD rfl (cq 1 6 11 12 (by decide) (by decide) (by decide) (by decide) _) rfl rfl rfl rfl (Nat.le_of_ble_eq_true rfl) (Nat.le_of_ble_eq_true rfl) rfl rfl rfl rfl ?_
      repeat refine EV.s rfl rfl rfl ?_
      refine EW.cv 0 [0, 3] hD rfl (cq 2 7 8 13 (by decide) (by decide) (by decide) (by decide) _) rfl rfl rfl rfl (Nat.le_of_ble_eq_true rfl) (Nat.le_of_ble_eq_true rfl) rfl rfl rfl rfl ?_
      repeat refine EV.s rfl rfl rfl ?_
      refine EW.cv 0 [0, 3] hD rfl (cq 3 4 9 14 (by decide) (by decide) (by decide) (by decide) _) rfl rfl rfl rfl (Nat.le_of_ble_eq_true rfl) (Nat.le_of_ble_eq_true rfl) rfl rfl rfl rfl ?_
      repeat refine EV.s rfl rfl rfl ?_
      exact ih (k + 1) (by omega) (dr Z) (by rw [hZ]; rfl) _ (nI_1 k)
set_option maxHeartbeats 1000000 in
theorem r_mb_loop2 (d : Nat) (z ky stt bl : Nat) (ct u l : Int32) (v0 v2 v3 : Value) (key S B C : Nat → Int32) (h : e_H) (hD : [z, ky, stt, bl, sa 2].Nodup) (hbb : bs ≤ bl) (E : e_C ⊕ (Option Value × e_H) → Prop)
    (hK : E (.inr (none, wd [z, ky, stt, bl, sa 2] [.inl (3, [v0, .ref ky, v2, v3, .ref stt, .ref bl]), .inr (.inl (8, key)), .inr (.inl (16, S)), .inr (.inl (16, adk B S 16)), .inr (.inl (4, C))] h))) :
    ∀ (n k : Nat), k + n = 16 → ∀ Z, Z = adk B S k → ∀ ki, ki = nI k → ev_E tbs bs sa (d + 2) t_X3_makeBlock E (182, [some (.ref z), some (.int ct), some (.int u), some (.int l), some (.int ki)], [.int 16, .int ki], wd [z, ky, stt, bl, sa 2] [.inl (3, [v0, .ref ky, v2, v3, .ref stt, .ref bl]), .inr (.inl (8, key)), .inr (.inl (16, S)), .inr (.inl (16, Z)), .inr (.inl (4, C))] h) := by
  intro n
  induction n with
  | zero =>
    intro k hk Z hZ ki hki
    have e : k = 16 := by omega
    subst e; subst hZ; subst hki
    refine EV.icm rfl (fun hc => ?_) (fun hc => ?_)
    · refine EV.ret rfl ?_
      exact hK
    · exact absurd (by decide : (16 : Int32) ≤ nI 16) (of_decide_eq_false hc)
  | succ n ih =>
    intro k hk Z hZ ki hki
    subst hki; subst hZ
    refine EV.icm rfl (fun hc => ?_) (fun hc => ?_)
    · exact absurd (of_decide_eq_true hc) (nI_ge (b := 16) (by omega) (by decide))
    · repeat (first | refine EV.s rfl rfl rfl ?_ | refine EW.get 0 hD rfl rfl rfl rfl ?_)
      refine EW.iald 3 k hD rfl rfl rfl rfl (by omega) (by decide) ?_
      repeat (first | refine EV.s rfl rfl rfl ?_ | refine EW.get 0 hD rfl rfl rfl rfl ?_)
      refine EW.iald 2 k hD rfl rfl rfl rfl (by omega) (by decide) ?_
      repeat refine EV.s rfl rfl rfl ?_
      refine EW.iast 3 k hD rfl rfl rfl hbb rfl (by omega) (by decide) ?_
      repeat refine EV.s rfl rfl rfl ?_
      exact ih (k + 1) (by omega) _ (adk_s B S k).symm _ (nI_1 k)
set_option maxHeartbeats 2000000 in
theorem r_makeBlock (d : Nat) (z ky stt bl : Nat) (ct u l : Int32) (v0 v2 v3 : Value) (key S B C : Nat → Int32) (hD : [z, ky, stt, bl, sa 2].Nodup) (hbb : bs ≤ bl) (hbS : bs ≤ stt) :
    CT bs sa (d + 3) 31 [.ref z, .int ct, .int u, .int l] [z, ky, stt, bl, sa 2] [.inl (3, [v0, .ref ky, v2, v3, .ref stt, .ref bl]), .inr (.inl (8, key)), .inr (.inl (16, S)), .inr (.inl (16, B)), .inr (.inl (4, C))]
      (fun rv o => rv = none ∧ ∃ S' B', al B' (cha C key ct u l) ∧ o = [.inl (3, [v0, .ref ky, v2, v3, .ref stt, .ref bl]), .inr (.inl (8, key)), .inr (.inl (16, S')), .inr (.inl (16, B')), .inr (.inl (4, C))]) := by
  refine CT.mk (T := t_X3_makeBlock) rfl (Nat.le_of_ble_eq_true rfl) (fun h => ?_)
  repeat (first | refine EV.s rfl rfl rfl ?_ | refine EW.get 0 hD rfl rfl rfl rfl ?_)
  refine EW.cpy 4 2 0 0 4 hD rfl rfl rfl rfl rfl hbS rfl rfl rfl (by decide) (by decide) (by decide) (by decide) (by decide) ?_
  repeat (first | refine EV.s rfl rfl rfl ?_ | refine EW.get 0 hD rfl rfl rfl rfl ?_)
  refine EW.cpy 1 2 0 4 8 hD rfl rfl rfl rfl rfl hbS rfl rfl rfl (by decide) (by decide) (by decide) (by decide) (by decide) ?_
  repeat (first | refine EV.s rfl rfl rfl ?_ | refine EW.get 0 hD rfl rfl rfl rfl ?_)
  refine EW.iast 2 12 hD rfl rfl rfl hbS rfl (by decide) (by decide) ?_
  repeat (first | refine EV.s rfl rfl rfl ?_ | refine EW.get 0 hD rfl rfl rfl rfl ?_)
  refine EW.iast 2 13 hD rfl rfl rfl hbS rfl (by decide) (by decide) ?_
  repeat (first | refine EV.s rfl rfl rfl ?_ | refine EW.get 0 hD rfl rfl rfl rfl ?_)
  refine EW.iast 2 14 hD rfl rfl rfl hbS rfl (by decide) (by decide) ?_
  repeat (first | refine EV.s rfl rfl rfl ?_ | refine EW.get 0 hD rfl rfl rfl rfl ?_)
  refine EW.iast 2 15 hD rfl rfl rfl hbS rfl (by decide) (by decide) ?_
  repeat (first | refine EV.s rfl rfl rfl ?_ | refine EW.get 0 hD rfl rfl rfl rfl ?_)
  refine EW.cpy 2 3 0 0 16 hD rfl rfl rfl rfl rfl hbb rfl rfl rfl (by decide) (by decide) (by decide) (by decide) (by decide) ?_
  repeat refine EV.s rfl rfl rfl ?_
  refine r_mb_loop1 d z ky stt bl ct u l v0 v2 v3 key (stc C key S ct u l) (va_cpy (stc C key S ct u l) B 0 0 16) C h hD hbb _ (fun ki => ?_) 10 0 rfl _ rfl _ rfl
  repeat refine EV.s rfl rfl rfl ?_
  refine r_mb_loop2 d z ky stt bl ct u l v0 v2 v3 key (stc C key S ct u l) (drs (va_cpy (stc C key S ct u l) B 0 0 16) 10) C h hD hbb _ ?_ 16 0 rfl _ (adk_0 _ _).symm _ rfl
  refine ⟨_, _, rfl, _, ⟨⟨rfl, _, _, ?_, rfl⟩, rfl⟩, rfl⟩
  intro k hk
  have h1 : al (va_cpy (stc C key S ct u l) B 0 0 16) (cst C key ct u l) := fun j hj => by rw [cpy_lo hj, Nat.zero_add]; exact stc_al C key S ct u l j hj
  simp only [adk, cha]
  rw [if_pos hk, drs_al h1 10 k hk, stc_al C key S ct u l k hk]
end BLK
end
section
/-- the stream -/
def sm (C key : Nat → Int32) (u l : Int32) (j : Nat) : Int32 := cha C key (nI (j / 16) + 1) u l (j % 16)
def xk (W : Nat → Int32) (at_ : Nat) (g : Nat → Int32) (q : Nat) : Nat → Int32 := fun j => if at_ ≤ j ∧ j < at_ + q then W j ^^^ g (j - at_) else W j
theorem xk_0 (W : Nat → Int32) (at_ : Nat) (g : Nat → Int32) : xk W at_ g 0 = W := by
  funext j; simp only [xk]; rw [if_neg (by omega)]
theorem xk_s (W : Nat → Int32) (at_ : Nat) (g : Nat → Int32) (q : Nat) (x : Int32) (hx : x = g q) : xk W at_ g (q + 1) = upd (xk W at_ g q) (at_ + q) (xk W at_ g q (at_ + q) ^^^ x) := by
  subst hx
  funext j
  simp only [xk, upd]
  by_cases e : j = at_ + q
  · subst e; rw [if_pos rfl, if_pos (by omega), if_neg (by omega), Nat.add_sub_cancel_left]
  · rw [if_neg e]
    by_cases z : at_ ≤ j ∧ j < at_ + q
    · rw [if_pos z, if_pos (by omega)]
    · rw [if_neg z, if_neg (by omega)]
section SEA
variable {bs : Nat} {sa : Nat → Nat}
set_option maxHeartbeats 1000000 in
theorem r_cov_in (d : Nat) (z ky stt bl w N at_ hf : Nat) (u l : Int32) (v0 v2 v3 : Value) (key S B C W : Nat → Int32) (h : e_H) (hD : [z, ky, stt, bl, sa 2, w].Nodup) (hbw : bs ≤ w) (hat : at_ + 32 ≤ N) (hN : N < 2 ^ 31) (hhf : hf < 2) (g : Nat → Int32) (hB : ∀ k, k < 16 → B k = g (16 * hf + k)) (hi fr : Int32) (hfr : fr = nI (at_ + 16 * hf)) (E : e_C ⊕ (Option Value × e_H) → Prop)
    (hK : ∀ ki, ev_E tbs bs sa (d + 3) t_X3_cover E (62, [some (.ref z), some (.ref w), some (.int (nI at_)), some (.int u), some (.int l), some (.int hi), some (.int fr), some (.int ki)], [], wd [z, ky, stt, bl, sa 2, w] [.inl (3, [v0, .ref ky, v2, v3, .ref stt, .ref bl]), .inr (.inl (8, key)), .inr (.inl (16, S)), .inr (.inl (16, B)), .inr (.inl (4, C)), .inr (.inl (N, xk W at_ g (16 * hf + 16)))] h)) :
    ∀ (n k : Nat), k + n = 16 → ∀ Z, Z = xk W at_ g (16 * hf + k) → ∀ ki, ki = nI k → ev_E tbs bs sa (d + 3) t_X3_cover E (36, [some (.ref z), some (.ref w), some (.int (nI at_)), some (.int u), some (.int l), some (.int hi), some (.int fr), some (.int ki)], [.int 16, .int ki], wd [z, ky, stt, bl, sa 2, w] [.inl (3, [v0, .ref ky, v2, v3, .ref stt, .ref bl]), .inr (.inl (8, key)), .inr (.inl (16, S)), .inr (.inl (16, B)), .inr (.inl (4, C)), .inr (.inl (N, Z))] h) := by
  intro n
  induction n with
  | zero =>
    intro k hk Z hZ ki hki
    have e : k = 16 := by omega
    subst e; subst hZ; subst hki
    refine EV.icm rfl (fun hc => ?_) (fun hc => ?_)
    · exact hK _
    · exact absurd (by decide : (16 : Int32) ≤ nI 16) (of_decide_eq_false hc)
  | succ n ih =>
    intro k hk Z hZ ki hki
    subst hki; subst hZ
    refine EV.icm rfl (fun hc => ?_) (fun hc => ?_)
    · exact absurd (of_decide_eq_true hc) (nI_ge (b := 16) (by omega) (by decide))
    · have hix : fr + nI k = nI (at_ + (16 * hf + k)) := by rw [hfr, nI_add]; congr 1; omega
      repeat refine EV.s rfl rfl rfl ?_
      refine EW.iald 5 (at_ + (16 * hf + k)) hD rfl rfl rfl hix (by omega) hN ?_
      repeat (first | refine EV.s rfl rfl rfl ?_ | refine EW.get 0 hD rfl rfl rfl rfl ?_)
      refine EW.iald 3 k hD rfl rfl rfl rfl (by omega) (by decide) ?_
      repeat refine EV.s rfl rfl rfl ?_
      refine EW.iast 5 (at_ + (16 * hf + k)) hD rfl rfl rfl hbw hix (by omega) hN ?_
      repeat refine EV.s rfl rfl rfl ?_
      exact ih (k + 1) (by omega) _ (xk_s W at_ g (16 * hf + k) (B k) (hB k (by omega))).symm _ (nI_1 k)
set_option maxHeartbeats 1000000 in
theorem r_cov_out (d : Nat) (z ky stt bl w N at_ : Nat) (u l : Int32) (v0 v2 v3 : Value) (key C W : Nat → Int32) (h : e_H) (hD : [z, ky, stt, bl, sa 2, w].Nodup) (hbb : bs ≤ bl) (hbS : bs ≤ stt) (hbw : bs ≤ w) (hat : at_ + 32 ≤ N) (hN : N < 2 ^ 31) (E : e_C ⊕ (Option Value × e_H) → Prop)
    (hK : ∀ S B, E (.inr (none, wd [z, ky, stt, bl, sa 2, w] [.inl (3, [v0, .ref ky, v2, v3, .ref stt, .ref bl]), .inr (.inl (8, key)), .inr (.inl (16, S)), .inr (.inl (16, B)), .inr (.inl (4, C)), .inr (.inl (N, xk W at_ (sm C key u l) 32))] h))) :
    ∀ (n hf : Nat), hf + n = 2 → ∀ S B Z, Z = xk W at_ (sm C key u l) (16 * hf) → ∀ hi, hi = nI hf → ∀ l6 l7, ev_E tbs bs sa (d + 3) t_X3_cover E (6, [some (.ref z), some (.ref w), some (.int (nI at_)), some (.int u), some (.int l), some (.int hi), l6, l7], [.int 2, .int hi], wd [z, ky, stt, bl, sa 2, w] [.inl (3, [v0, .ref ky, v2, v3, .ref stt, .ref bl]), .inr (.inl (8, key)), .inr (.inl (16, S)), .inr (.inl (16, B)), .inr (.inl (4, C)), .inr (.inl (N, Z))] h) := by
  intro n
  induction n with
  | zero =>
    intro hf hk S B Z hZ hi hhi l6 l7
    have e : hf = 2 := by omega
    subst e; subst hZ; subst hhi
    refine EV.icm rfl (fun hc => ?_) (fun hc => ?_)
    · refine EV.ret rfl ?_
      exact hK S B
    · exact absurd (by decide : (2 : Int32) ≤ nI 2) (of_decide_eq_false hc)
  | succ n ih =>
    intro hf hk S B Z hZ hi hhi l6 l7
    subst hhi
    refine EV.icm rfl (fun hc => ?_) (fun hc => ?_)
    · exact absurd (of_decide_eq_true hc) (nI_ge (b := 2) (by omega) (by decide))
    · repeat refine EV.s rfl rfl rfl ?_
      refine EW.cvE 0 [0, 1, 2, 3, 4] hD (r_makeBlock d z ky stt bl (nI hf + 1) u l v0 v2 v3 key S B C (nd_sub hD [0, 1, 2, 3, 4] (by decide) rfl) hbb hbS) rfl rfl rfl rfl rfl (Nat.le_of_ble_eq_true rfl) (Nat.le_of_ble_eq_true rfl) rfl rfl rfl ?_
      rintro rv os2 ⟨rfl, S', B', hal, rfl⟩
      repeat refine EV.s rfl rfl rfl ?_
      refine r_cov_in d z ky stt bl w N at_ hf u l v0 v2 v3 key S' B' C W h hD hbw hat hN (by omega) (sm C key u l) (fun k hk => ?_) (nI hf) _ (by rw [Nat.mul_comm, ← nI_add, ← pk_mul]; rfl) _ (fun ki => ?_) 16 0 rfl Z hZ _ rfl
      · rw [hal k hk]
        simp only [sm]
        rw [show (16 * hf + k) / 16 = hf by omega, show (16 * hf + k) % 16 = k by omega]
      · repeat refine EV.s rfl rfl rfl ?_
        exact ih (hf + 1) (by omega) S' B' _ rfl _ (nI_1 hf) _ _
set_option maxHeartbeats 1000000 in
theorem r_cover (d : Nat) (z ky stt bl w N at_ : Nat) (u l : Int32) (v0 v2 v3 : Value) (key S B C W : Nat → Int32) (hD : [z, ky, stt, bl, sa 2, w].Nodup) (hbb : bs ≤ bl) (hbS : bs ≤ stt) (hbw : bs ≤ w) (hat : at_ + 32 ≤ N) (hN : N < 2 ^ 31) :
    CT bs sa (d + 4) 30 [.ref z, .ref w, .int (nI at_), .int u, .int l] [z, ky, stt, bl, sa 2, w] [.inl (3, [v0, .ref ky, v2, v3, .ref stt, .ref bl]), .inr (.inl (8, key)), .inr (.inl (16, S)), .inr (.inl (16, B)), .inr (.inl (4, C)), .inr (.inl (N, W))]
      (fun rv o => rv = none ∧ ∃ S' B', o = [.inl (3, [v0, .ref ky, v2, v3, .ref stt, .ref bl]), .inr (.inl (8, key)), .inr (.inl (16, S')), .inr (.inl (16, B')), .inr (.inl (4, C)), .inr (.inl (N, xk W at_ (sm C key u l) 32))]) := by
  refine CT.mk (T := t_X3_cover) rfl (Nat.le_of_ble_eq_true rfl) (fun h => ?_)
  repeat refine EV.s rfl rfl rfl ?_
  refine r_cov_out d z ky stt bl w N at_ u l v0 v2 v3 key C W h hD hbb hbS hbw hat hN _ (fun S' B' => ?_) 2 0 rfl S B W (xk_0 _ _ _).symm _ rfl none none
  exact ⟨_, _, rfl, _, ⟨⟨rfl, S', B', rfl⟩, rfl⟩, rfl⟩
/-- HMAC's key words -/
def hk (mark : Nat → Int32) (pad : Int32) (j : Nat) : Int32 := if j < 8 then mark j ^^^ pad else pad
def mbk (mark : Nat → Int32) (pad : Int32) (F : Nat → Int32) (k : Nat) : Nat → Int32 := fun j => if j < k then hk mark pad j else F j
theorem mbk_s (mark : Nat → Int32) (pad : Int32) (F : Nat → Int32) (k : Nat) : mbk mark pad F (k + 1) = upd (mbk mark pad F k) k (hk mark pad k) := by
  funext j
  simp only [mbk, upd]
  by_cases e : j = k
  · subst e; rw [if_pos (by omega), if_pos rfl]
  · rw [if_neg e]
    by_cases z : j < k
    · rw [if_pos z, if_pos (by omega)]
    · rw [if_neg z, if_neg (by omega)]
theorem mbk_0 (mark : Nat → Int32) (pad : Int32) (F : Nat → Int32) : mbk mark pad F 0 = F := by
  funext j; simp only [mbk]; rw [if_neg (by omega)]
set_option maxHeartbeats 1000000 in
theorem r_bwm_loop (d : Nat) (z mk hh ms s t : Nat) (pad : Int32) (v1 v3 v4 v5 : Value) (mark F : Nat → Int32) (h : e_H) (hD : [z, mk, hh, ms].Nodup) (hbh : bs ≤ hh) (hbm : bs ≤ ms) (E : e_C ⊕ (Option Value × e_H) → Prop)
    (hK : E (.inr (none, wd [z, mk, hh, ms] [.inl (3, [.ref hh, v1, .ref mk, v3, v4, v5]), .inr (.inl (8, mark)), .inl (0, [.ref ms, .ref s, .ref t, .int (nI 16)]), .inr (.inl (64, mbk mark pad F 16))] h))) :
    ∀ (n k : Nat), k + n = 16 → ∀ Z, Z = mbk mark pad F k → ∀ ki, ki = nI k → ev_E tbs bs sa (d + 1) t_X3_beginWithMark E (12, [some (.ref z), some (.int pad), some (.int ki)], [.int 16, .int ki], wd [z, mk, hh, ms] [.inl (3, [.ref hh, v1, .ref mk, v3, v4, v5]), .inr (.inl (8, mark)), .inl (0, [.ref ms, .ref s, .ref t, .int (nI k)]), .inr (.inl (64, Z))] h) := by
  intro n
  induction n with
  | zero =>
    intro k hk Z hZ ki hki
    have e : k = 16 := by omega
    subst e; subst hZ; subst hki
    refine EV.icm rfl (fun hc => ?_) (fun hc => ?_)
    · refine EV.ret rfl ?_
      exact hK
    · exact absurd (by decide : (16 : Int32) ≤ nI 16) (of_decide_eq_false hc)
  | succ n ih =>
    intro k hk9 Z hZ ki hki
    subst hki; subst hZ
    have hd2 : [hh, ms].Nodup := nd_sub hD [2, 3] (by decide) rfl
    refine EV.icm rfl (fun hc => ?_) (fun hc => ?_)
    · exact absurd (of_decide_eq_true hc) (nI_ge (b := 16) (by omega) (by decide))
    · repeat (first | refine EV.s rfl rfl rfl ?_ | refine EW.get 0 hD rfl rfl rfl rfl ?_)
      refine EV.icm rfl (fun hc8 => ?_) (fun hc8 => ?_)
      · have h8 : ¬ k < 8 := fun q => absurd (of_decide_eq_true hc8) (nI_ge (b := 8) q (by decide))
        repeat refine EV.s rfl rfl rfl ?_
        refine EW.cv 2 [2, 3] hD rfl (fun h0 => r_add d hh ms k s t pad (mbk mark pad F k) h0 hd2 hbh hbm (by omega)) rfl rfl rfl rfl (Nat.le_of_ble_eq_true rfl) (Nat.le_of_ble_eq_true rfl) rfl rfl rfl rfl ?_
        repeat refine EV.s rfl rfl rfl ?_
        exact ih (k + 1) (by omega) _ (by rw [mbk_s, hk, if_neg h8]) _ (nI_1 k)
      · have h8 : k < 8 := by
          rcases Nat.lt_or_ge k 8 with q | q
          · exact q
          · exact absurd (nI_le (a := 8) q (by omega)) (of_decide_eq_false hc8)
        repeat (first | refine EV.s rfl rfl rfl ?_ | refine EW.get 0 hD rfl rfl rfl rfl ?_)
        refine EW.iald 1 k hD rfl rfl rfl rfl h8 (by decide) ?_
        repeat refine EV.s rfl rfl rfl ?_
        refine EW.cv 2 [2, 3] hD rfl (fun h0 => r_add d hh ms k s t (mark k ^^^ pad) (mbk mark pad F k) h0 hd2 hbh hbm (by omega)) rfl rfl rfl rfl (Nat.le_of_ble_eq_true rfl) (Nat.le_of_ble_eq_true rfl) rfl rfl rfl rfl ?_
        repeat refine EV.s rfl rfl rfl ?_
        exact ih (k + 1) (by omega) _ (by rw [mbk_s, hk, if_pos h8]) _ (nI_1 k)
set_option maxHeartbeats 1000000 in
theorem r_beginWithMark (d : Nat) (z mk hh ms s t : Nat) (pad : Int32) (v1 v3 v4 v5 : Value) (L : Int32) (mark F : Nat → Int32) (h : e_H) (hD : [z, mk, hh, ms].Nodup) (hbh : bs ≤ hh) (hbm : bs ≤ ms) :
    ev_run tbs bs sa (d + 2) 29 [.ref z, .int pad] (wd [z, mk, hh, ms] [.inl (3, [.ref hh, v1, .ref mk, v3, v4, v5]), .inr (.inl (8, mark)), .inl (0, [.ref ms, .ref s, .ref t, .int L]), .inr (.inl (64, F))] h) none (wd [z, mk, hh, ms] [.inl (3, [.ref hh, v1, .ref mk, v3, v4, v5]), .inr (.inl (8, mark)), .inl (0, [.ref ms, .ref s, .ref t, .int (nI 16)]), .inr (.inl (64, mbk mark pad F 16))] h) := by
  refine RUN.mk (T := t_X3_beginWithMark) rfl (Nat.le_of_ble_eq_true rfl) ?_
  repeat (first | refine EV.s rfl rfl rfl ?_ | refine EW.get 0 hD rfl rfl rfl rfl ?_)
  refine EW.cv 2 [2] hD rfl (fun h0 => r_begin d hh (.ref ms) (.ref s) (.ref t) (.int L) rfl h0 (nd_sub hD [2] (by decide) rfl) hbh) rfl rfl rfl rfl (Nat.le_of_ble_eq_true rfl) (Nat.le_of_ble_eq_true rfl) rfl rfl rfl rfl ?_
  repeat refine EV.s rfl rfl rfl ?_
  refine r_bwm_loop d z mk hh ms s t pad v1 v3 v4 v5 mark F h hD hbh hbm _ ?_ 16 0 rfl F (mbk_0 _ _ _).symm _ rfl
  rfl
end SEA
end
section
def hmi (K I mark f : Nat → Int32) (n : Nat) : Nat → Int32 := sha K I (fun j => if j < 16 then hk mark 909522486 j else f (j - 16)) (16 + n)
def hmo (K I mark f : Nat → Int32) (n : Nat) : Nat → Int32 := sha K I (fun j => if j < 16 then hk mark 1549556828 j else hmi K I mark f n (j - 16)) 24
theorem mbk_cpy (mark W F : Nat → Int32) (pad : Int32) {n j : Nat} (h : j < 16 + n) : va_cpy W (mbk mark pad F 16) 0 16 n j = if j < 16 then hk mark pad j else W (j - 16) := by
  simp only [va_cpy, mbk]
  by_cases q : j < 16
  · rw [if_neg (by omega), if_pos q, if_pos q]
  · rw [if_pos (by omega), if_neg q, Nat.zero_add]
theorem hmo_eq {K I mark W F X Y : Nat → Int32} {n j : Nat} (hj : j < 8) : sha K I (va_cpy (va_cpy (sha K I (va_cpy W (mbk mark 909522486 F 16) 0 16 n) (16 + n)) X 0 0 8) (mbk mark 1549556828 Y 16) 0 16 8) (16 + 8) j = hmo K I mark W n j := by
  refine sha_congr (fun _ _ => rfl) (fun _ _ => rfl) (fun i hi => ?_) hj
  rw [mbk_cpy mark _ Y _ (n := 8) hi]
  by_cases q : i < 16
  · rw [if_pos q, if_pos q]
  · rw [if_neg q, if_neg q, cpy_lo (by omega), Nat.zero_add]
    exact sha_congr (fun _ _ => rfl) (fun _ _ => rfl) (fun i hi => mbk_cpy mark W F _ hi) (by omega)
theorem cpy_ext {f f' g : Nat → Int32} {at_ n : Nat} (h : ∀ j, j < n → f j = f' j) : va_cpy f g 0 at_ n = va_cpy f' g 0 at_ n := by
  funext j
  simp only [va_cpy]
  by_cases q : at_ ≤ j ∧ j < at_ + n
  · rw [if_pos q, if_pos q]; exact h _ (by omega)
  · rw [if_neg q, if_neg q]
section SGN
variable {bs : Nat} {sa : Nat → Nat}
set_option maxHeartbeats 2000000 in
theorem r_signA (d : Nat) (z mk inn hh ms sc st src tg n M N at_ : Nat) (v1 v4 v5 : Value) (L : Int32) (mark X F G H I K W D : Nat → Int32) (hD : [z, mk, inn, hh, ms, sc, st, sa 0, sa 1, src, tg].Nodup) (hbi : bs ≤ inn) (hbh : bs ≤ hh) (hbm : bs ≤ ms) (hbsc : bs ≤ sc) (hbst : bs ≤ st) (hbt : bs ≤ tg) (hn : n ≤ 45) (hM : n ≤ M) (hM2 : M < 2 ^ 31) (hN : at_ + 8 ≤ N) (hN2 : N < 2 ^ 31) :
    CT bs sa (d + 4) 28 [.ref z, .ref src, .int (nI n), .ref tg, .int (nI at_)] [z, mk, inn, hh, ms, sc, st, sa 0, sa 1, src, tg] [.inl (3, [.ref hh, v1, .ref mk, .ref inn, v4, v5]), .inr (.inl (8, mark)), .inr (.inl (8, X)), .inl (0, [.ref ms, .ref sc, .ref st, .int L]), .inr (.inl (64, F)), .inr (.inl (64, G)), .inr (.inl (8, H)), .inr (.inl (8, I)), .inr (.inl (64, K)), .inr (.inl (M, W)), .inr (.inl (N, D))]
      (fun rv o => rv = none ∧ ∃ X' F' G' H' L' T', o = [.inl (3, [.ref hh, v1, .ref mk, .ref inn, v4, v5]), .inr (.inl (8, mark)), .inr (.inl (8, X')), .inl (0, [.ref ms, .ref sc, .ref st, .int L']), .inr (.inl (64, F')), .inr (.inl (64, G')), .inr (.inl (8, H')), .inr (.inl (8, I)), .inr (.inl (64, K)), .inr (.inl (M, W)), .inr (.inl (N, T'))] ∧ T' = va_cpy (hmo K I mark W n) D 0 at_ 8) := by
  refine CT.mk (T := t_X3_sign) rfl (Nat.le_of_ble_eq_true rfl) (fun h => ?_)
  repeat refine EV.s rfl rfl rfl ?_
  refine EW.cv 0 [0, 1, 3, 4] hD rfl (fun h0 => r_beginWithMark (d + 1) z mk hh ms sc st 909522486 v1 (.ref inn) v4 v5 L mark F h0 (nd_sub hD [0, 1, 3, 4] (by decide) rfl) hbh hbm) rfl rfl rfl rfl (Nat.le_of_ble_eq_true rfl) (Nat.le_of_ble_eq_true rfl) rfl rfl rfl rfl ?_
  try simp only [setm, List.set_cons_succ, List.set_cons_zero, Option.toList, List.nil_append, List.cons_append]
  repeat (first | refine EV.s rfl rfl rfl ?_ | refine EW.get 0 hD rfl rfl rfl rfl ?_)
  refine EW.cv 3 [3, 4, 9] hD rfl (fun h0 => r_addAll (d + 1) hh ms sc st src 16 n M (mbk mark 909522486 F 16) W h0 (nd_sub hD [3, 4, 9] (by decide) rfl) hbh hbm (by omega) hM hM2) rfl rfl rfl rfl (Nat.le_of_ble_eq_true rfl) (Nat.le_of_ble_eq_true rfl) rfl rfl rfl rfl ?_
  try simp only [setm, List.set_cons_succ, List.set_cons_zero, Option.toList, List.nil_append, List.cons_append]
  repeat (first | refine EV.s rfl rfl rfl ?_ | refine EW.get 0 hD rfl rfl rfl rfl ?_)
  refine EW.cvE 3 [3, 4, 5, 6, 7, 8, 2] hD (r_finish d hh ms sc st inn (16 + n) 8 0 (va_cpy W (mbk mark 909522486 F 16) 0 16 n) G H I K X (nd_sub hD [3, 4, 5, 6, 7, 8, 2] (by decide) rfl) hbh hbm hbsc hbst hbi (by omega) (by decide) (by decide)) rfl rfl rfl rfl rfl (Nat.le_of_ble_eq_true rfl) (Nat.le_of_ble_eq_true rfl) rfl rfl rfl ?_
  rintro rv os2 ⟨rfl, G1, H1, rfl⟩
  try simp only [setm, List.set_cons_succ, List.set_cons_zero, Option.toList, List.nil_append, List.cons_append]
  repeat refine EV.s rfl rfl rfl ?_
  refine EW.cv 0 [0, 1, 3, 4] hD rfl (fun h0 => r_beginWithMark (d + 1) z mk hh ms sc st 1549556828 v1 (.ref inn) v4 v5 (nI (16 + n)) mark _ h0 (nd_sub hD [0, 1, 3, 4] (by decide) rfl) hbh hbm) rfl rfl rfl rfl (Nat.le_of_ble_eq_true rfl) (Nat.le_of_ble_eq_true rfl) rfl rfl rfl rfl ?_
  try simp only [setm, List.set_cons_succ, List.set_cons_zero, Option.toList, List.nil_append, List.cons_append]
  repeat (first | refine EV.s rfl rfl rfl ?_ | refine EW.get 0 hD rfl rfl rfl rfl ?_)
  refine EW.cv 3 [3, 4, 2] hD rfl (fun h0 => r_addAll (d + 1) hh ms sc st inn 16 8 8 _ _ h0 (nd_sub hD [3, 4, 2] (by decide) rfl) hbh hbm (by decide) (by decide) (by decide)) rfl rfl rfl rfl (Nat.le_of_ble_eq_true rfl) (Nat.le_of_ble_eq_true rfl) rfl rfl rfl rfl ?_
  try simp only [setm, List.set_cons_succ, List.set_cons_zero, Option.toList, List.nil_append, List.cons_append]
  repeat (first | refine EV.s rfl rfl rfl ?_ | refine EW.get 0 hD rfl rfl rfl rfl ?_)
  refine EW.cvE 3 [3, 4, 5, 6, 7, 8, 10] hD (r_finish d hh ms sc st tg (16 + 8) N at_ _ G1 H1 I K D (nd_sub hD [3, 4, 5, 6, 7, 8, 10] (by decide) rfl) hbh hbm hbsc hbst hbt (by decide) hN hN2) rfl rfl rfl rfl rfl (Nat.le_of_ble_eq_true rfl) (Nat.le_of_ble_eq_true rfl) rfl rfl rfl ?_
  rintro rv os2 ⟨rfl, G2, H2, rfl⟩
  try simp only [setm, List.set_cons_succ, List.set_cons_zero, Option.toList, List.nil_append, List.cons_append]
  exact EV.ret rfl ⟨_, _, rfl, _, ⟨⟨rfl, _, _, _, _, _, _, rfl, cpy_ext (fun j hj => hmo_eq hj)⟩, rfl⟩, rfl⟩
set_option maxHeartbeats 2000000 in
theorem r_signB (d : Nat) (z mk inn hh ms sc st src n N at_ : Nat) (v1 v4 v5 : Value) (L : Int32) (mark X F G H I K W : Nat → Int32) (hD : [z, mk, inn, hh, ms, sc, st, sa 0, sa 1, src].Nodup) (hbi : bs ≤ inn) (hbh : bs ≤ hh) (hbm : bs ≤ ms) (hbsc : bs ≤ sc) (hbst : bs ≤ st) (hbt : bs ≤ src) (hn : n ≤ 45) (hM : n ≤ N) (hN : at_ + 8 ≤ N) (hN2 : N < 2 ^ 31) :
    CT bs sa (d + 4) 28 [.ref z, .ref src, .int (nI n), .ref src, .int (nI at_)] [z, mk, inn, hh, ms, sc, st, sa 0, sa 1, src] [.inl (3, [.ref hh, v1, .ref mk, .ref inn, v4, v5]), .inr (.inl (8, mark)), .inr (.inl (8, X)), .inl (0, [.ref ms, .ref sc, .ref st, .int L]), .inr (.inl (64, F)), .inr (.inl (64, G)), .inr (.inl (8, H)), .inr (.inl (8, I)), .inr (.inl (64, K)), .inr (.inl (N, W))]
      (fun rv o => rv = none ∧ ∃ X' F' G' H' L' T', o = [.inl (3, [.ref hh, v1, .ref mk, .ref inn, v4, v5]), .inr (.inl (8, mark)), .inr (.inl (8, X')), .inl (0, [.ref ms, .ref sc, .ref st, .int L']), .inr (.inl (64, F')), .inr (.inl (64, G')), .inr (.inl (8, H')), .inr (.inl (8, I)), .inr (.inl (64, K)), .inr (.inl (N, T'))] ∧ T' = va_cpy (hmo K I mark W n) W 0 at_ 8) := by
  refine CT.mk (T := t_X3_sign) rfl (Nat.le_of_ble_eq_true rfl) (fun h => ?_)
  repeat refine EV.s rfl rfl rfl ?_
  refine EW.cv 0 [0, 1, 3, 4] hD rfl (fun h0 => r_beginWithMark (d + 1) z mk hh ms sc st 909522486 v1 (.ref inn) v4 v5 L mark F h0 (nd_sub hD [0, 1, 3, 4] (by decide) rfl) hbh hbm) rfl rfl rfl rfl (Nat.le_of_ble_eq_true rfl) (Nat.le_of_ble_eq_true rfl) rfl rfl rfl rfl ?_
  try simp only [setm, List.set_cons_succ, List.set_cons_zero, Option.toList, List.nil_append, List.cons_append]
  repeat (first | refine EV.s rfl rfl rfl ?_ | refine EW.get 0 hD rfl rfl rfl rfl ?_)
  refine EW.cv 3 [3, 4, 9] hD rfl (fun h0 => r_addAll (d + 1) hh ms sc st src 16 n N (mbk mark 909522486 F 16) W h0 (nd_sub hD [3, 4, 9] (by decide) rfl) hbh hbm (by omega) hM hN2) rfl rfl rfl rfl (Nat.le_of_ble_eq_true rfl) (Nat.le_of_ble_eq_true rfl) rfl rfl rfl rfl ?_
  try simp only [setm, List.set_cons_succ, List.set_cons_zero, Option.toList, List.nil_append, List.cons_append]
  repeat (first | refine EV.s rfl rfl rfl ?_ | refine EW.get 0 hD rfl rfl rfl rfl ?_)
  refine EW.cvE 3 [3, 4, 5, 6, 7, 8, 2] hD (r_finish d hh ms sc st inn (16 + n) 8 0 (va_cpy W (mbk mark 909522486 F 16) 0 16 n) G H I K X (nd_sub hD [3, 4, 5, 6, 7, 8, 2] (by decide) rfl) hbh hbm hbsc hbst hbi (by omega) (by decide) (by decide)) rfl rfl rfl rfl rfl (Nat.le_of_ble_eq_true rfl) (Nat.le_of_ble_eq_true rfl) rfl rfl rfl ?_
  rintro rv os2 ⟨rfl, G1, H1, rfl⟩
  try simp only [setm, List.set_cons_succ, List.set_cons_zero, Option.toList, List.nil_append, List.cons_append]
  repeat refine EV.s rfl rfl rfl ?_
  refine EW.cv 0 [0, 1, 3, 4] hD rfl (fun h0 => r_beginWithMark (d + 1) z mk hh ms sc st 1549556828 v1 (.ref inn) v4 v5 (nI (16 + n)) mark _ h0 (nd_sub hD [0, 1, 3, 4] (by decide) rfl) hbh hbm) rfl rfl rfl rfl (Nat.le_of_ble_eq_true rfl) (Nat.le_of_ble_eq_true rfl) rfl rfl rfl rfl ?_
  try simp only [setm, List.set_cons_succ, List.set_cons_zero, Option.toList, List.nil_append, List.cons_append]
  repeat (first | refine EV.s rfl rfl rfl ?_ | refine EW.get 0 hD rfl rfl rfl rfl ?_)
  refine EW.cv 3 [3, 4, 2] hD rfl (fun h0 => r_addAll (d + 1) hh ms sc st inn 16 8 8 _ _ h0 (nd_sub hD [3, 4, 2] (by decide) rfl) hbh hbm (by decide) (by decide) (by decide)) rfl rfl rfl rfl (Nat.le_of_ble_eq_true rfl) (Nat.le_of_ble_eq_true rfl) rfl rfl rfl rfl ?_
  try simp only [setm, List.set_cons_succ, List.set_cons_zero, Option.toList, List.nil_append, List.cons_append]
  repeat (first | refine EV.s rfl rfl rfl ?_ | refine EW.get 0 hD rfl rfl rfl rfl ?_)
  refine EW.cvE 3 [3, 4, 5, 6, 7, 8, 9] hD (r_finish d hh ms sc st src (16 + 8) N at_ _ G1 H1 I K W (nd_sub hD [3, 4, 5, 6, 7, 8, 9] (by decide) rfl) hbh hbm hbsc hbst hbt (by decide) hN hN2) rfl rfl rfl rfl rfl (Nat.le_of_ble_eq_true rfl) (Nat.le_of_ble_eq_true rfl) rfl rfl rfl ?_
  rintro rv os2 ⟨rfl, G2, H2, rfl⟩
  try simp only [setm, List.set_cons_succ, List.set_cons_zero, Option.toList, List.nil_append, List.cons_append]
  exact EV.ret rfl ⟨_, _, rfl, _, ⟨⟨rfl, _, _, _, _, _, _, rfl, cpy_ext (fun j hj => hmo_eq hj)⟩, rfl⟩, rfl⟩
def up64 (x : Int64) : Int32 := (x.toUInt64 >>> ((32 : Int32).toInt64.toUInt64 &&& Int64.toUInt64 63)).toInt64.toInt32
def kdf (K I : Nat → Int32) (seed : Int64) (p : Int32) : Nat → Int32 := sha K I (fun j => if j = 0 then up64 seed else if j = 1 then seed.toInt32 else p) 3
set_option maxHeartbeats 2000000 in
theorem r_derive (d : Nat) (z hh ms sc st tg : Nat) (v1 v2 v3 v4 v5 : Value) (L p : Int32) (seed : Int64) (F G H I K D : Nat → Int32) (hD : [z, hh, ms, sc, st, sa 0, sa 1, tg].Nodup) (hbh : bs ≤ hh) (hbm : bs ≤ ms) (hbsc : bs ≤ sc) (hbst : bs ≤ st) (hbt : bs ≤ tg) :
    CT bs sa (d + 4) 27 [.ref z, .long seed, .int p, .ref tg] [z, hh, ms, sc, st, sa 0, sa 1, tg] [.inl (3, [.ref hh, v1, v2, v3, v4, v5]), .inl (0, [.ref ms, .ref sc, .ref st, .int L]), .inr (.inl (64, F)), .inr (.inl (64, G)), .inr (.inl (8, H)), .inr (.inl (8, I)), .inr (.inl (64, K)), .inr (.inl (8, D))]
      (fun rv o => rv = none ∧ ∃ F' G' H' T', o = [.inl (3, [.ref hh, v1, v2, v3, v4, v5]), .inl (0, [.ref ms, .ref sc, .ref st, .int (nI 3)]), .inr (.inl (64, F')), .inr (.inl (64, G')), .inr (.inl (8, H')), .inr (.inl (8, I)), .inr (.inl (64, K)), .inr (.inl (8, T'))] ∧ T' = va_cpy (kdf K I seed p) D 0 0 8) := by
  refine CT.mk (T := t_X3_derive) rfl (Nat.le_of_ble_eq_true rfl) (fun h => ?_)
  have hd2 : [hh, ms].Nodup := nd_sub hD [1, 2] (by decide) rfl
  repeat (first | refine EV.s rfl rfl rfl ?_ | refine EW.get 0 hD rfl rfl rfl rfl ?_)
  refine EW.cv 1 [1] hD rfl (fun h0 => r_begin (d + 2) hh (.ref ms) (.ref sc) (.ref st) (.int L) rfl h0 (nd_sub hD [1] (by decide) rfl) hbh) rfl rfl rfl rfl (Nat.le_of_ble_eq_true rfl) (Nat.le_of_ble_eq_true rfl) rfl rfl rfl rfl ?_
  try simp only [setm, List.set_cons_succ, List.set_cons_zero, Option.toList, List.nil_append, List.cons_append]
  repeat (first | refine EV.s rfl rfl rfl ?_ | refine EW.get 0 hD rfl rfl rfl rfl ?_)
  refine EW.cv 1 [1, 2] hD rfl (fun h0 => r_add (d + 2) hh ms 0 sc st (up64 seed) F h0 hd2 hbh hbm (by decide)) rfl rfl rfl rfl (Nat.le_of_ble_eq_true rfl) (Nat.le_of_ble_eq_true rfl) rfl rfl rfl rfl ?_
  try simp only [setm, List.set_cons_succ, List.set_cons_zero, Option.toList, List.nil_append, List.cons_append]
  repeat (first | refine EV.s rfl rfl rfl ?_ | refine EW.get 0 hD rfl rfl rfl rfl ?_)
  refine EW.cv 1 [1, 2] hD rfl (fun h0 => r_add (d + 2) hh ms 1 sc st seed.toInt32 _ h0 hd2 hbh hbm (by decide)) rfl rfl rfl rfl (Nat.le_of_ble_eq_true rfl) (Nat.le_of_ble_eq_true rfl) rfl rfl rfl rfl ?_
  try simp only [setm, List.set_cons_succ, List.set_cons_zero, Option.toList, List.nil_append, List.cons_append]
  repeat (first | refine EV.s rfl rfl rfl ?_ | refine EW.get 0 hD rfl rfl rfl rfl ?_)
  refine EW.cv 1 [1, 2] hD rfl (fun h0 => r_add (d + 2) hh ms 2 sc st p _ h0 hd2 hbh hbm (by decide)) rfl rfl rfl rfl (Nat.le_of_ble_eq_true rfl) (Nat.le_of_ble_eq_true rfl) rfl rfl rfl rfl ?_
  try simp only [setm, List.set_cons_succ, List.set_cons_zero, Option.toList, List.nil_append, List.cons_append]
  repeat (first | refine EV.s rfl rfl rfl ?_ | refine EW.get 0 hD rfl rfl rfl rfl ?_)
  refine EW.cvE 1 [1, 2, 3, 4, 5, 6, 7] hD (r_finish d hh ms sc st tg 3 8 0 _ G H I K D (nd_sub hD [1, 2, 3, 4, 5, 6, 7] (by decide) rfl) hbh hbm hbsc hbst hbt (by decide) (by decide) (by decide)) rfl rfl rfl rfl rfl (Nat.le_of_ble_eq_true rfl) (Nat.le_of_ble_eq_true rfl) rfl rfl rfl ?_
  rintro rv os2 ⟨rfl, G2, H2, rfl⟩
  try simp only [setm, List.set_cons_succ, List.set_cons_zero, Option.toList, List.nil_append, List.cons_append]
  refine EV.ret rfl ⟨_, _, rfl, _, ⟨⟨rfl, _, _, _, _, rfl, cpy_ext (fun j hj => sha_congr (fun _ _ => rfl) (fun _ _ => rfl) (fun i hi => ?_) hj)⟩, rfl⟩, rfl⟩
  have : i = 0 ∨ i = 1 ∨ i = 2 := by omega
  rcases this with rfl | rfl | rfl <;> rfl
end SGN
end
section
/-! Page's methods. -/
def jn (u l : Int32) : Int64 := (u.toInt64 <<< ((32 : Int32).toInt64 &&& 63)) ||| (l.toInt64 &&& 4294967295)
section PAG
variable {bs : Nat} {sa : Nat → Nat}
theorem r_join (d : Nat) (u l : Int32) (h : e_H) : ev_run tbs bs sa (d + 1) 16 [.int u, .int l] h (some (.long (jn u l))) h := by
  refine RUN.mk (T := t_X1_join) rfl (Nat.le_of_ble_eq_true rfl) ?_
  repeat refine EV.s rfl rfl rfl ?_
  refine EV.rl rfl rfl ?_
  rfl
theorem r_own (d : Nat) (p : Nat) (v0 v1 : Value) (tp ow ad rt id se t e : Int32) (h : e_H) (hD : [p].Nodup) (hb : bs ≤ p) :
    ev_run tbs bs sa (d + 1) 10 [.ref p, .int t, .int e] (wd [p] [.inl (1, [v0, v1, .int tp, .int ow, .int ad, .int rt, .int id, .int se])] h) none (wd [p] [.inl (1, [v0, v1, .int t, .int e, .int ad, .int rt, .int id, .int se])] h) := by
  refine RUN.mk (T := t_X1_own) rfl (Nat.le_of_ble_eq_true rfl) ?_
  repeat refine EV.s rfl rfl rfl ?_
  refine EW.put 0 hD rfl rfl rfl hb (Nat.le_of_ble_eq_true rfl) rfl ?_
  repeat refine EV.s rfl rfl rfl ?_
  refine EW.put 0 hD rfl rfl rfl hb (Nat.le_of_ble_eq_true rfl) rfl ?_
  refine EV.ret rfl ?_
  rfl
theorem r_isSaved (d : Nat) (p w : Nat) (v1 : Value) (tp ow ad rt id se : Int32) (W : Nat → Int32) (h : e_H) (hD : [p, w].Nodup) :
    ev_run tbs bs sa (d + 1) 12 [.ref p] (wd [p, w] [.inl (1, [.ref w, v1, .int tp, .int ow, .int ad, .int rt, .int id, .int se]), .inr (.inl (32, W))] h) (some (.int (if tp = 2 ∧ W 1 ≠ 0 then 1 else 0))) (wd [p, w] [.inl (1, [.ref w, v1, .int tp, .int ow, .int ad, .int rt, .int id, .int se]), .inr (.inl (32, W))] h) := by
  refine RUN.mk (T := t_X1_isSaved) rfl (Nat.le_of_ble_eq_true rfl) ?_
  repeat (first | refine EV.s rfl rfl rfl ?_ | refine EW.get 0 hD rfl rfl rfl rfl ?_)
  refine EV.icm rfl (fun hc => ?_) (fun hc => ?_)
  · have hc : tp ≠ 2 := of_decide_eq_true hc
    repeat refine EV.s rfl rfl rfl ?_
    refine EV.ret rfl ?_
    rw [if_neg (fun q => hc q.1)]
  · have hc : tp = 2 := Decidable.of_not_not (of_decide_eq_false hc)
    repeat (first | refine EV.s rfl rfl rfl ?_ | refine EW.get 0 hD rfl rfl rfl rfl ?_)
    refine EW.iald 1 1 hD rfl rfl rfl rfl (by decide) (by decide) ?_
    refine EV.ifc rfl (fun h0 => ?_) (fun h0 => ?_)
    · have h0 : W 1 = 0 := of_decide_eq_true h0
      repeat refine EV.s rfl rfl rfl ?_
      refine EV.ret rfl ?_
      rw [if_neg (fun q => q.2 h0)]
    · have h0 : W 1 ≠ 0 := of_decide_eq_false h0
      repeat refine EV.s rfl rfl rfl ?_
      refine EV.ret rfl ?_
      rw [if_pos ⟨hc, h0⟩]
theorem r_isDataOf (d : Nat) (p : Nat) (v0 v1 : Value) (tp ow ad rt id se e : Int32) (h : e_H) (hD : [p].Nodup) :
    ev_run tbs bs sa (d + 1) 13 [.ref p, .int e] (wd [p] [.inl (1, [v0, v1, .int tp, .int ow, .int ad, .int rt, .int id, .int se])] h) (some (.int (if tp = 3 ∧ ow = e then 1 else 0))) (wd [p] [.inl (1, [v0, v1, .int tp, .int ow, .int ad, .int rt, .int id, .int se])] h) := by
  refine RUN.mk (T := t_X1_isDataOf) rfl (Nat.le_of_ble_eq_true rfl) ?_
  repeat (first | refine EV.s rfl rfl rfl ?_ | refine EW.get 0 hD rfl rfl rfl rfl ?_)
  refine EV.icm rfl (fun hc => ?_) (fun hc => ?_)
  · have hc : tp ≠ 3 := of_decide_eq_true hc
    repeat refine EV.s rfl rfl rfl ?_
    refine EV.ret rfl ?_
    rw [if_neg (fun q => hc q.1)]
  · have hc : tp = 3 := Decidable.of_not_not (of_decide_eq_false hc)
    repeat (first | refine EV.s rfl rfl rfl ?_ | refine EW.get 0 hD rfl rfl rfl rfl ?_)
    refine EV.icm rfl (fun h0 => ?_) (fun h0 => ?_)
    · have h0 : ow ≠ e := of_decide_eq_true h0
      repeat refine EV.s rfl rfl rfl ?_
      refine EV.ret rfl ?_
      rw [if_neg (fun q => h0 q.2)]
    · have h0 : ow = e := Decidable.of_not_not (of_decide_eq_false h0)
      repeat refine EV.s rfl rfl rfl ?_
      refine EV.ret rfl ?_
      rw [if_pos ⟨hc, h0⟩]
/-- a number that is within -/
theorem in_nI {x : Int32} {n : Nat} (hn : n < 2 ^ 31) (h : 0 ≤ x ∧ x < nI n) : ∃ j, j < n ∧ x = nI j := by
  rcases pk_ix x hn with q | q | q
  · exact absurd h.1 (Int32.not_le.mpr q)
  · exact absurd h.2 (Int32.not_lt.mpr q)
  · exact q
set_option maxHeartbeats 1000000 in
theorem r_numberIn (d : Nat) (p w j : Nat) (v1 : Value) (fs : List Value) (W : Nat → Int32) (h : e_H) (hD : [p, w].Nodup) (hj : j < 16) :
    ev_run tbs bs sa (d + 2) 14 [.ref p, .int (nI j)] (wd [p, w] [.inl (1, .ref w :: v1 :: fs), .inr (.inl (32, W))] h) (some (.long (jn (W (2 * j)) (W (2 * j + 1))))) (wd [p, w] [.inl (1, .ref w :: v1 :: fs), .inr (.inl (32, W))] h) := by
  have e1 : (2 : Int32) * nI j = nI (2 * j) := pk_mul 2 j
  refine RUN.mk (T := t_X1_numberIn) rfl (Nat.le_of_ble_eq_true rfl) ?_
  repeat refine EV.s rfl rfl rfl ?_
  refine EV.call rfl (r_isWithin _ _ _ _) ?_
  refine EV.ifc rfl (fun hc => ?_) (fun hc => ?_)
  · exfalso
    have hc := of_decide_eq_true hc
    rw [if_pos ⟨nI_pos' (by omega), nI_lt (b := 16) hj (by decide)⟩] at hc
    exact absurd hc (by decide)
  · repeat (first | refine EV.s rfl rfl rfl ?_ | refine EW.get 0 hD rfl rfl rfl rfl ?_)
    refine EW.iald 1 (2 * j) hD rfl rfl rfl e1 (by omega) (by decide) ?_
    repeat (first | refine EV.s rfl rfl rfl ?_ | refine EW.get 0 hD rfl rfl rfl rfl ?_)
    refine EW.iald 1 (2 * j + 1) hD rfl rfl rfl (by rw [← nI_1, ← e1]) (by omega) (by decide) ?_
    refine EV.call rfl (r_join _ _ _ _) ?_
    repeat refine EV.s rfl rfl rfl ?_
    refine EV.rl rfl rfl ?_
    rfl
theorem r_setNumber (d : Nat) (p w j : Nat) (x : Int64) (v1 : Value) (fs : List Value) (W : Nat → Int32) (h : e_H) (hD : [p, w].Nodup) (hb : bs ≤ w) (hj : j < 16) :
    ev_run tbs bs sa (d + 2) 15 [.ref p, .int (nI j), .long x] (wd [p, w] [.inl (1, .ref w :: v1 :: fs), .inr (.inl (32, W))] h) none (wd [p, w] [.inl (1, .ref w :: v1 :: fs), .inr (.inl (32, upd (upd W (2 * j) (up64 x)) (2 * j + 1) x.toInt32))] h) := by
  have e1 : (2 : Int32) * nI j = nI (2 * j) := pk_mul 2 j
  refine RUN.mk (T := t_X1_setNumber) rfl (Nat.le_of_ble_eq_true rfl) ?_
  repeat refine EV.s rfl rfl rfl ?_
  refine EV.call rfl (r_isWithin _ _ _ _) ?_
  refine EV.ifc rfl (fun hc => ?_) (fun hc => ?_)
  · exfalso
    have hc := of_decide_eq_true hc
    rw [if_pos ⟨nI_pos' (by omega), nI_lt (b := 16) hj (by decide)⟩] at hc
    exact absurd hc (by decide)
  · repeat (first | refine EV.s rfl rfl rfl ?_ | refine EW.get 0 hD rfl rfl rfl rfl ?_)
    refine EW.iast 1 (2 * j) hD rfl rfl rfl hb e1 (by omega) (by decide) ?_
    repeat (first | refine EV.s rfl rfl rfl ?_ | refine EW.get 0 hD rfl rfl rfl rfl ?_)
    refine EW.iast 1 (2 * j + 1) hD rfl rfl rfl hb (by rw [← nI_1, ← e1]) (by omega) (by decide) ?_
    refine EV.ret rfl ?_
    rfl
set_option maxHeartbeats 1000000 in
theorem r_clr_loop2 (d : Nat) (p w m : Nat) (fs : List Value) (W M : Nat → Int32) (h : e_H) (hD : [p, w, m].Nodup) (hbm : bs ≤ m) (E : e_C ⊕ (Option Value × e_H) → Prop)
    (hK : E (.inr (none, wd [p, w, m] [.inl (1, .ref w :: .ref m :: fs), .inr (.inl (32, W)), .inr (.inl (8, zf M 0 8))] h))) :
    ∀ (n k : Nat), k + n = 8 → ∀ Z, Z = zf M 0 k → ∀ ki, ki = nI k → ev_E tbs bs sa d t_X1_clear E (56, [some (.ref p), some (.int ki)], [.int 8, .int ki], wd [p, w, m] [.inl (1, .ref w :: .ref m :: fs), .inr (.inl (32, W)), .inr (.inl (8, Z))] h) := by
  intro n
  induction n with
  | zero =>
    intro k hk Z hZ ki hki
    have e : k = 8 := by omega
    subst e; subst hZ; subst hki
    refine EV.icm rfl (fun hc => ?_) (fun hc => ?_)
    · refine EV.ret rfl ?_
      exact hK
    · exact absurd (by decide : (8 : Int32) ≤ nI 8) (of_decide_eq_false hc)
  | succ n ih =>
    intro k hk Z hZ ki hki
    subst hki; subst hZ
    refine EV.icm rfl (fun hc => ?_) (fun hc => ?_)
    · exact absurd (of_decide_eq_true hc) (nI_ge (b := 8) (by omega) (by decide))
    · repeat (first | refine EV.s rfl rfl rfl ?_ | refine EW.get 0 hD rfl rfl rfl rfl ?_)
      refine EW.iast 2 k hD rfl rfl rfl hbm rfl (by omega) (by decide) ?_
      repeat refine EV.s rfl rfl rfl ?_
      exact ih (k + 1) (by omega) _ (zf_s M (Nat.zero_le k)).symm _ (nI_1 k)
set_option maxHeartbeats 1000000 in
theorem r_clr_loop1 (d : Nat) (p w m : Nat) (fs : List Value) (W M : Nat → Int32) (h : e_H) (hD : [p, w, m].Nodup) (hbw : bs ≤ w) (E : e_C ⊕ (Option Value × e_H) → Prop)
    (hK : ∀ ki, ev_E tbs bs sa d t_X1_clear E (51, [some (.ref p), some (.int ki)], [], wd [p, w, m] [.inl (1, .ref w :: .ref m :: fs), .inr (.inl (32, zf W 0 32)), .inr (.inl (8, M))] h)) :
    ∀ (n k : Nat), k + n = 32 → ∀ Z, Z = zf W 0 k → ∀ ki, ki = nI k → ev_E tbs bs sa d t_X1_clear E (35, [some (.ref p), some (.int ki)], [.int 32, .int ki], wd [p, w, m] [.inl (1, .ref w :: .ref m :: fs), .inr (.inl (32, Z)), .inr (.inl (8, M))] h) := by
  intro n
  induction n with
  | zero =>
    intro k hk Z hZ ki hki
    have e : k = 32 := by omega
    subst e; subst hZ; subst hki
    refine EV.icm rfl (fun hc => ?_) (fun hc => ?_)
    · exact hK _
    · exact absurd (by decide : (32 : Int32) ≤ nI 32) (of_decide_eq_false hc)
  | succ n ih =>
    intro k hk Z hZ ki hki
    subst hki; subst hZ
    refine EV.icm rfl (fun hc => ?_) (fun hc => ?_)
    · exact absurd (of_decide_eq_true hc) (nI_ge (b := 32) (by omega) (by decide))
    · repeat (first | refine EV.s rfl rfl rfl ?_ | refine EW.get 0 hD rfl rfl rfl rfl ?_)
      refine EW.iast 1 k hD rfl rfl rfl hbw rfl (by omega) (by decide) ?_
      repeat refine EV.s rfl rfl rfl ?_
      exact ih (k + 1) (by omega) _ (zf_s W (Nat.zero_le k)).symm _ (nI_1 k)
set_option maxHeartbeats 1000000 in
theorem r_clear (d : Nat) (p w m : Nat) (tp ow ad rt id se : Int32) (W M : Nat → Int32) (h : e_H) (hD : [p, w, m].Nodup) (hbp : bs ≤ p) (hbw : bs ≤ w) (hbm : bs ≤ m) :
    ev_run tbs bs sa (d + 1) 11 [.ref p] (wd [p, w, m] [.inl (1, [.ref w, .ref m, .int tp, .int ow, .int ad, .int rt, .int id, .int se]), .inr (.inl (32, W)), .inr (.inl (8, M))] h) none (wd [p, w, m] [.inl (1, [.ref w, .ref m, .int 0, .int (-1), .int 0, .int 0, .int 0, .int 0]), .inr (.inl (32, zf W 0 32)), .inr (.inl (8, zf M 0 8))] h) := by
  refine RUN.mk (T := t_X1_clear) rfl (Nat.le_of_ble_eq_true rfl) ?_
  repeat refine EV.s rfl rfl rfl ?_
  refine EW.put 0 hD rfl rfl rfl hbp (Nat.le_of_ble_eq_true rfl) rfl ?_
  repeat refine EV.s rfl rfl rfl ?_
  refine EW.put 0 hD rfl rfl rfl hbp (Nat.le_of_ble_eq_true rfl) rfl ?_
  repeat refine EV.s rfl rfl rfl ?_
  refine EW.put 0 hD rfl rfl rfl hbp (Nat.le_of_ble_eq_true rfl) rfl ?_
  repeat refine EV.s rfl rfl rfl ?_
  refine EW.put 0 hD rfl rfl rfl hbp (Nat.le_of_ble_eq_true rfl) rfl ?_
  repeat refine EV.s rfl rfl rfl ?_
  refine EW.put 0 hD rfl rfl rfl hbp (Nat.le_of_ble_eq_true rfl) rfl ?_
  repeat refine EV.s rfl rfl rfl ?_
  refine EW.put 0 hD rfl rfl rfl hbp (Nat.le_of_ble_eq_true rfl) rfl ?_
  repeat refine EV.s rfl rfl rfl ?_
  refine r_clr_loop1 d p w m [.int 0, .int (-1), .int 0, .int 0, .int 0, .int 0] W M h hD hbw _ (fun ki => ?_) 32 0 rfl W (zf_0 W 0).symm _ rfl
  repeat refine EV.s rfl rfl rfl ?_
  refine r_clr_loop2 d p w m [.int 0, .int (-1), .int 0, .int 0, .int 0, .int 0] (zf W 0 32) M h hD hbm _ ?_ 8 0 rfl M (zf_0 M 0).symm _ rfl
  rfl
end PAG
end
section
/-! The Model's digest. -/
/-- wide, k places of it made -/
def mwi (M G : Nat → Int32) (fr : Nat) : Nat → Nat → Int32
  | 0 => G
  | k + 1 => upd (mwi M G fr k) k (if k < 16 then M (fr + k) else mwi M G fr k (k - 16) + sg0 (mwi M G fr k (k - 15)) + mwi M G fr k (k - 7) + sg1 (mwi M G fr k (k - 2)))
theorem mwi_eq (M G : Nat → Int32) (fr : Nat) : ∀ k j, j < k → mwi M G fr k j = swi (fun j => M (fr + j)) k j := by
  intro k
  induction k with
  | zero => intro j hj; omega
  | succ k ih =>
    intro j hj
    simp only [mwi, swi, upd]
    by_cases e : j = k
    · subst e
      rw [if_pos rfl]
      by_cases q : 16 ≤ j
      · rw [if_neg (by omega), if_pos q, ih _ (by omega), ih _ (by omega), ih _ (by omega), ih _ (by omega)]
        simp only [upd, if_pos]
      · rw [if_pos (by omega), if_neg q, swi_lo _ j (by omega)]
    · rw [if_neg e]
      by_cases q : 16 ≤ k
      · rw [if_pos q]; simp only [upd]; rw [if_neg e]; exact ih j (by omega)
      · rw [if_neg q]; exact ih j (by omega)
def shf (T : Nat → Int32) (i : Nat) : Nat → Int32 := fun j => if i < j ∧ j ≤ 7 then T (j - 1) else T j
theorem shf_7 (T : Nat → Int32) : shf T 7 = T := by
  funext j; simp only [shf]; rw [if_neg (by omega)]
theorem shf_s (T : Nat → Int32) {i : Nat} (hi : i < 7) : shf T i = upd (shf T (i + 1)) (i + 1) (shf T (i + 1) i) := by
  funext j
  simp only [shf, upd]
  by_cases e : j = i + 1
  · subst e; rw [if_pos (by omega), if_pos rfl, if_neg (by omega)]; rfl
  · rw [if_neg e]
    by_cases q : i < j ∧ j ≤ 7
    · rw [if_pos q, if_pos (by omega)]
    · rw [if_neg q, if_neg (by omega)]
section MHS
variable {bs : Nat} {sa : Nat → Nat}
theorem r_right (d : Nat) (x b : Int32) (h : e_H) : ev_run tbs bs sa (d + 1) 71 [.int x, .int b] h (some (.int (rr x b))) h := by
  refine RUN.mk (T := t_X5_right) rfl (Nat.le_of_ble_eq_true rfl) ?_
  repeat refine EV.s rfl rfl rfl ?_
  refine EV.ri rfl rfl ?_
  rfl
set_option maxHeartbeats 1000000 in
set_option maxRecDepth 100000 in
theorem r_mb1 (d : Nat) (M fr : Nat) (fs : List Value) (h18 : fs[18]? = some (.ref (M + 12))) (h20 : fs[20]? = some (.ref (M + 14))) (hfr : fr + 16 ≤ 80) (A H G T K : Nat → Int32) (h : e_H) (hD : [M, M + 12, M + 13, M + 14, M + 15, sa 4].Nodup) (hb : bs ≤ M) (E : e_C ⊕ (Option Value × e_H) → Prop)
    (hK : ∀ ki l3 l4, ev_E tbs bs sa (d + 1) t_X5_block E (122, [some (.ref M), some (.int (nI fr)), some (.int ki), l3, l4, none, none, none], [], wd [M, M + 12, M + 13, M + 14, M + 15, sa 4] [.inl (5, fs), .inr (.inl (80, A)), .inr (.inl (8, H)), .inr (.inl (64, mwi A G fr 64)), .inr (.inl (8, T)), .inr (.inl (64, K))] h)) :
    ∀ (n k : Nat), k + n = 64 → ∀ Z, Z = mwi A G fr k → ∀ ki, ki = nI k → ∀ l3 l4, ev_E tbs bs sa (d + 1) t_X5_block E (5, [some (.ref M), some (.int (nI fr)), some (.int ki), l3, l4, none, none, none], [.int 64, .int ki], wd [M, M + 12, M + 13, M + 14, M + 15, sa 4] [.inl (5, fs), .inr (.inl (80, A)), .inr (.inl (8, H)), .inr (.inl (64, Z)), .inr (.inl (8, T)), .inr (.inl (64, K))] h) := by
  intro n
  induction n with
  | zero =>
    intro k hk Z hZ ki hki l3 l4
    have e : k = 64 := by omega
    subst e; subst hZ; subst hki
    refine EV.icm rfl (fun hc => ?_) (fun hc => ?_)
    · exact hK _ _ _
    · exact absurd (by decide : (64 : Int32) ≤ nI 64) (of_decide_eq_false hc)
  | succ n ih =>
    intro k hk Z hZ ki hki l3 l4
    subst hki; subst hZ
    refine EV.icm rfl (fun hc => ?_) (fun hc => ?_)
    · exact absurd (of_decide_eq_true hc) (nI_ge (b := 64) (by omega) (by decide))
    · repeat refine EV.s rfl rfl rfl ?_
      refine EV.icm rfl (fun h16 => ?_) (fun h16 => ?_)
      · have h16 : ¬ k < 16 := fun q => absurd (of_decide_eq_true h16) (nI_ge (b := 16) q (by decide))
        repeat (first | refine EV.s rfl rfl rfl ?_ | refine EW.get 0 hD rfl rfl rfl h20 ?_)
        refine EW.iald 3 (k - 15) hD rfl rfl rfl (pk_sub (b := 15) (by omega)) (by omega) (by decide) ?_
        repeat (first | refine EV.s rfl rfl rfl ?_ | refine EW.get 0 hD rfl rfl rfl h20 ?_)
        refine EW.iald 3 (k - 2) hD rfl rfl rfl (pk_sub (b := 2) (by omega)) (by omega) (by decide) ?_
        repeat (first | refine EV.s rfl rfl rfl ?_ | refine EW.get 0 hD rfl rfl rfl h20 ?_)
        refine EW.iald 3 (k - 16) hD rfl rfl rfl (pk_sub (b := 16) (by omega)) (by omega) (by decide) ?_
        repeat refine EV.s rfl rfl rfl ?_
        refine EV.call rfl (r_right _ _ _ _) ?_
        repeat refine EV.s rfl rfl rfl ?_
        refine EV.call rfl (r_right _ _ _ _) ?_
        repeat (first | refine EV.s rfl rfl rfl ?_ | refine EW.get 0 hD rfl rfl rfl h20 ?_)
        refine EW.iald 3 (k - 7) hD rfl rfl rfl (pk_sub (b := 7) (by omega)) (by omega) (by decide) ?_
        repeat refine EV.s rfl rfl rfl ?_
        refine EV.call rfl (r_right _ _ _ _) ?_
        repeat refine EV.s rfl rfl rfl ?_
        refine EV.call rfl (r_right _ _ _ _) ?_
        repeat refine EV.s rfl rfl rfl ?_
        refine EW.iast 3 k hD rfl rfl rfl (by omega) rfl (by omega) (by decide) ?_
        repeat refine EV.s rfl rfl rfl ?_
        exact ih (k + 1) (by omega) _ (by simp only [mwi]; rw [if_neg h16]; rfl) _ (nI_1 k) _ _
      · have h16 : k < 16 := by
          rcases Nat.lt_or_ge k 16 with q | q
          · exact q
          · exact absurd (nI_le (a := 16) q (by omega)) (of_decide_eq_false h16)
        repeat (first | refine EV.s rfl rfl rfl ?_ | refine EW.get 0 hD rfl rfl rfl h18 ?_ | refine EW.get 0 hD rfl rfl rfl h20 ?_)
        refine EW.iald 1 (fr + k) hD rfl rfl rfl (nI_add fr k) (by omega) (by decide) ?_
        refine EW.iast 3 k hD rfl rfl rfl (by omega) rfl (by omega) (by decide) ?_
        repeat refine EV.s rfl rfl rfl ?_
        exact ih (k + 1) (by omega) _ (by simp only [mwi]; rw [if_pos h16]) _ (nI_1 k) _ _
set_option maxHeartbeats 1000000 in
set_option maxRecDepth 100000 in
theorem r_mb2 (d : Nat) (M : Nat) (fs : List Value) (h19 : fs[19]? = some (.ref (M + 13))) (h21 : fs[21]? = some (.ref (M + 15))) (fi : Int32) (l3 l4 l5 l6 l7 : Option Value) (A H G T K : Nat → Int32) (h : e_H) (hD : [M, M + 12, M + 13, M + 14, M + 15, sa 4].Nodup) (hb : bs ≤ M) (E : e_C ⊕ (Option Value × e_H) → Prop)
    (hK : ∀ ki, ev_E tbs bs sa (d + 1) t_X5_block E (148, [some (.ref M), some (.int fi), some (.int ki), l3, l4, l5, l6, l7], [], wd [M, M + 12, M + 13, M + 14, M + 15, sa 4] [.inl (5, fs), .inr (.inl (80, A)), .inr (.inl (8, H)), .inr (.inl (64, G)), .inr (.inl (8, va_cpy H T 0 0 8)), .inr (.inl (64, K))] h)) :
    ∀ (n k : Nat), k + n = 8 → ∀ Z, Z = va_cpy H T 0 0 k → ∀ ki, ki = nI k → ev_E tbs bs sa (d + 1) t_X5_block E (127, [some (.ref M), some (.int fi), some (.int ki), l3, l4, l5, l6, l7], [.int 8, .int ki], wd [M, M + 12, M + 13, M + 14, M + 15, sa 4] [.inl (5, fs), .inr (.inl (80, A)), .inr (.inl (8, H)), .inr (.inl (64, G)), .inr (.inl (8, Z)), .inr (.inl (64, K))] h) := by
  intro n
  induction n with
  | zero =>
    intro k hk Z hZ ki hki
    have e : k = 8 := by omega
    subst e; subst hZ; subst hki
    refine EV.icm rfl (fun hc => ?_) (fun hc => ?_)
    · exact hK _
    · exact absurd (by decide : (8 : Int32) ≤ nI 8) (of_decide_eq_false hc)
  | succ n ih =>
    intro k hk Z hZ ki hki
    subst hki; subst hZ
    refine EV.icm rfl (fun hc => ?_) (fun hc => ?_)
    · exact absurd (of_decide_eq_true hc) (nI_ge (b := 8) (by omega) (by decide))
    · repeat (first | refine EV.s rfl rfl rfl ?_ | refine EW.get 0 hD rfl rfl rfl h19 ?_ | refine EW.get 0 hD rfl rfl rfl h21 ?_)
      refine EW.iald 2 k hD rfl rfl rfl rfl (by omega) (by decide) ?_
      refine EW.iast 4 k hD rfl rfl rfl (by omega) rfl (by omega) (by decide) ?_
      repeat refine EV.s rfl rfl rfl ?_
      refine ih (k + 1) (by omega) _ ?_ _ (nI_1 k)
      rw [cpy_s, Nat.zero_add]
set_option maxHeartbeats 1000000 in
set_option maxRecDepth 100000 in
theorem r_mb4 (d : Nat) (M : Nat) (fs : List Value) (h19 : fs[19]? = some (.ref (M + 13))) (h21 : fs[21]? = some (.ref (M + 15))) (fi : Int32) (l3 l4 l5 l6 l7 : Option Value) (A H G T K : Nat → Int32) (h : e_H) (hD : [M, M + 12, M + 13, M + 14, M + 15, sa 4].Nodup) (hb : bs ≤ M) (E : e_C ⊕ (Option Value × e_H) → Prop)
    (hK : E (.inr (none, wd [M, M + 12, M + 13, M + 14, M + 15, sa 4] [.inl (5, fs), .inr (.inl (80, A)), .inr (.inl (8, adk H T 8)), .inr (.inl (64, G)), .inr (.inl (8, T)), .inr (.inl (64, K))] h))) :
    ∀ (n k : Nat), k + n = 8 → ∀ Z, Z = adk H T k → ∀ ki, ki = nI k → ev_E tbs bs sa (d + 1) t_X5_block E (357, [some (.ref M), some (.int fi), some (.int ki), l3, l4, l5, l6, l7], [.int 8, .int ki], wd [M, M + 12, M + 13, M + 14, M + 15, sa 4] [.inl (5, fs), .inr (.inl (80, A)), .inr (.inl (8, Z)), .inr (.inl (64, G)), .inr (.inl (8, T)), .inr (.inl (64, K))] h) := by
  intro n
  induction n with
  | zero =>
    intro k hk Z hZ ki hki
    have e : k = 8 := by omega
    subst e; subst hZ; subst hki
    refine EV.icm rfl (fun hc => ?_) (fun hc => ?_)
    · refine EV.ret rfl ?_
      exact hK
    · exact absurd (by decide : (8 : Int32) ≤ nI 8) (of_decide_eq_false hc)
  | succ n ih =>
    intro k hk Z hZ ki hki
    subst hki; subst hZ
    refine EV.icm rfl (fun hc => ?_) (fun hc => ?_)
    · exact absurd (of_decide_eq_true hc) (nI_ge (b := 8) (by omega) (by decide))
    · repeat (first | refine EV.s rfl rfl rfl ?_ | refine EW.get 0 hD rfl rfl rfl h19 ?_ | refine EW.get 0 hD rfl rfl rfl h21 ?_)
      refine EW.iald 2 k hD rfl rfl rfl rfl (by omega) (by decide) ?_
      repeat (first | refine EV.s rfl rfl rfl ?_ | refine EW.get 0 hD rfl rfl rfl h19 ?_ | refine EW.get 0 hD rfl rfl rfl h21 ?_)
      refine EW.iald 4 k hD rfl rfl rfl rfl (by omega) (by decide) ?_
      repeat refine EV.s rfl rfl rfl ?_
      refine EW.iast 2 k hD rfl rfl rfl (by omega) rfl (by omega) (by decide) ?_
      repeat refine EV.s rfl rfl rfl ?_
      exact ih (k + 1) (by omega) _ (adk_s H T k).symm _ (nI_1 k)
set_option maxHeartbeats 1000000 in
set_option maxRecDepth 100000 in
/-- the shift -/
theorem r_mb3s (d : Nat) (M : Nat) (fs : List Value) (h21 : fs[21]? = some (.ref (M + 15))) (fi ki : Int32) (l3 l4 l5 : Option Value) (v6 : Int32) (A H G T K : Nat → Int32) (h : e_H) (hD : [M, M + 12, M + 13, M + 14, M + 15, sa 4].Nodup) (hb : bs ≤ M) (E : e_C ⊕ (Option Value × e_H) → Prop)
    (hK : ∀ l7, ev_E tbs bs sa (d + 1) t_X5_block E (324, [some (.ref M), some (.int fi), some (.int ki), l3, l4, l5, some (.int v6), l7], [], wd [M, M + 12, M + 13, M + 14, M + 15, sa 4] [.inl (5, fs), .inr (.inl (80, A)), .inr (.inl (8, H)), .inr (.inl (64, G)), .inr (.inl (8, shf T 0)), .inr (.inl (64, K))] h)) :
    ∀ (i : Nat), i ≤ 7 → ∀ Z, Z = shf T i → ∀ ii, ii = nI i → ev_E tbs bs sa (d + 1) t_X5_block E (299, [some (.ref M), some (.int fi), some (.int ki), l3, l4, l5, some (.int v6), some (.int ii)], [.int ii], wd [M, M + 12, M + 13, M + 14, M + 15, sa 4] [.inl (5, fs), .inr (.inl (80, A)), .inr (.inl (8, H)), .inr (.inl (64, G)), .inr (.inl (8, Z)), .inr (.inl (64, K))] h) := by
  intro i
  induction i with
  | zero =>
    intro _ Z hZ ii hii
    subst hZ; subst hii
    refine EV.ifc rfl (fun hc => ?_) (fun hc => ?_)
    · exact hK _
    · exact absurd (by decide : nI 0 ≤ (0 : Int32)) (of_decide_eq_false hc)
  | succ i ih =>
    intro hi Z hZ ii hii
    subst hZ; subst hii
    refine EV.ifc rfl (fun hc => ?_) (fun hc => ?_)
    · exact absurd (of_decide_eq_true hc) (nI_nle (by omega) (by omega))
    · repeat (first | refine EV.s rfl rfl rfl ?_ | refine EW.get 0 hD rfl rfl rfl h21 ?_)
      refine EW.iald 4 i hD rfl rfl rfl (nI_pred i) (by omega) (by decide) ?_
      refine EW.iast 4 (i + 1) hD rfl rfl rfl (by omega) rfl (by omega) (by decide) ?_
      repeat refine EV.s rfl rfl rfl ?_
      refine ih (by omega) _ ?_ _ ?_
      · exact (shf_s T (by omega)).symm
      · exact pk_m1 i
end MHS
end
section
section MHS2
variable {bs : Nat} {sa : Nat → Nat}
/-- a round of the Model: what stands in turn -/
def mrd (kk ww : Int32) (T : Nat → Int32) : Nat → Int32 := upd (upd (shf T 0) 4 (shf T 0 4 + (T 7 + (rr (T 4) 6 ^^^ rr (T 4) 11 ^^^ rr (T 4) 25) + ((T 4 &&& T 5) ^^^ ((T 4 ^^^ -1) &&& T 6)) + kk + ww))) 0 ((T 7 + (rr (T 4) 6 ^^^ rr (T 4) 11 ^^^ rr (T 4) 25) + ((T 4 &&& T 5) ^^^ ((T 4 ^^^ -1) &&& T 6)) + kk + ww) + ((rr (T 0) 2 ^^^ rr (T 0) 13 ^^^ rr (T 0) 22) + ((T 0 &&& T 1) ^^^ (T 0 &&& T 2) ^^^ (T 1 &&& T 2))))
theorem mrd_eq (kk ww : Int32) (T : Nat → Int32) {j : Nat} (hj : j < 8) : mrd kk ww T j = srd kk ww T j := by
  have : j = 0 ∨ j = 1 ∨ j = 2 ∨ j = 3 ∨ j = 4 ∨ j = 5 ∨ j = 6 ∨ j = 7 := by omega
  rcases this with rfl | rfl | rfl | rfl | rfl | rfl | rfl | rfl
  · simp only [mrd, srd, upd, if_pos]; rw [Int32.add_assoc (_ + ww)]
  all_goals rfl
theorem srd_congr (kk ww : Int32) {T T' : Nat → Int32} (h : ∀ j, j < 8 → T j = T' j) {j : Nat} (hj : j < 8) : srd kk ww T j = srd kk ww T' j := by
  simp only [srd]
  rw [h 0 (by omega), h 1 (by omega), h 2 (by omega), h 3 (by omega), h 4 (by omega), h 5 (by omega), h 6 (by omega), h 7 (by omega), h (j - 1) (by omega)]
set_option maxHeartbeats 2000000 in
set_option maxRecDepth 100000 in
theorem r_mb3 (d : Nat) (M : Nat) (fs : List Value) (h20 : fs[20]? = some (.ref (M + 14))) (h21 : fs[21]? = some (.ref (M + 15))) (fi : Int32) (A H G S K : Nat → Int32) (h : e_H) (hD : [M, M + 12, M + 13, M + 14, M + 15, sa 4].Nodup) (hb : bs ≤ M) (E : e_C ⊕ (Option Value × e_H) → Prop)
    (hK : ∀ T ki l3 l4 l5 l6 l7, (∀ j, j < 8 → T j = srs K G S 64 j) → ev_E tbs bs sa (d + 1) t_X5_block E (352, [some (.ref M), some (.int fi), some (.int ki), l3, l4, l5, l6, l7], [], wd [M, M + 12, M + 13, M + 14, M + 15, sa 4] [.inl (5, fs), .inr (.inl (80, A)), .inr (.inl (8, H)), .inr (.inl (64, G)), .inr (.inl (8, T)), .inr (.inl (64, K))] h)) :
    ∀ (n k : Nat), k + n = 64 → ∀ T, (∀ j, j < 8 → T j = srs K G S k j) → ∀ ki, ki = nI k → ∀ l3 l4 l5 l6 l7, ev_E tbs bs sa (d + 1) t_X5_block E (153, [some (.ref M), some (.int fi), some (.int ki), l3, l4, l5, l6, l7], [.int 64, .int ki], wd [M, M + 12, M + 13, M + 14, M + 15, sa 4] [.inl (5, fs), .inr (.inl (80, A)), .inr (.inl (8, H)), .inr (.inl (64, G)), .inr (.inl (8, T)), .inr (.inl (64, K))] h) := by
  intro n
  induction n with
  | zero =>
    intro k hk T hT ki hki l3 l4 l5 l6 l7
    have e : k = 64 := by omega
    subst e; subst hki
    refine EV.icm rfl (fun hc => ?_) (fun hc => ?_)
    · exact hK T _ _ _ _ _ _ hT
    · exact absurd (by decide : (64 : Int32) ≤ nI 64) (of_decide_eq_false hc)
  | succ n ih =>
    intro k hk T hT ki hki l3 l4 l5 l6 l7
    subst hki
    refine EV.icm rfl (fun hc => ?_) (fun hc => ?_)
    · exact absurd (of_decide_eq_true hc) (nI_ge (b := 64) (by omega) (by decide))
    · repeat (first | refine EV.s rfl rfl rfl ?_ | refine EW.get 0 hD rfl rfl rfl h21 ?_)
      refine EW.iald 4 0 hD rfl rfl rfl rfl (by decide) (by decide) ?_
      repeat (first | refine EV.s rfl rfl rfl ?_ | refine EW.get 0 hD rfl rfl rfl h21 ?_)
      refine EW.iald 4 4 hD rfl rfl rfl rfl (by decide) (by decide) ?_
      repeat (first | refine EV.s rfl rfl rfl ?_ | refine EW.get 0 hD rfl rfl rfl h21 ?_)
      refine EW.iald 4 7 hD rfl rfl rfl rfl (by decide) (by decide) ?_
      repeat refine EV.s rfl rfl rfl ?_
      refine EV.call rfl (r_right _ _ _ _) ?_
      repeat refine EV.s rfl rfl rfl ?_
      refine EV.call rfl (r_right _ _ _ _) ?_
      repeat refine EV.s rfl rfl rfl ?_
      refine EV.call rfl (r_right _ _ _ _) ?_
      repeat (first | refine EV.s rfl rfl rfl ?_ | refine EW.get 0 hD rfl rfl rfl h21 ?_)
      refine EW.iald 4 5 hD rfl rfl rfl rfl (by decide) (by decide) ?_
      repeat (first | refine EV.s rfl rfl rfl ?_ | refine EW.get 0 hD rfl rfl rfl h21 ?_)
      refine EW.iald 4 6 hD rfl rfl rfl rfl (by decide) (by decide) ?_
      repeat refine EV.s rfl rfl rfl ?_
      refine EW.iald 5 k hD rfl rfl rfl rfl (by omega) (by decide) ?_
      repeat (first | refine EV.s rfl rfl rfl ?_ | refine EW.get 0 hD rfl rfl rfl h20 ?_)
      refine EW.iald 3 k hD rfl rfl rfl rfl (by omega) (by decide) ?_
      repeat refine EV.s rfl rfl rfl ?_
      refine EV.call rfl (r_right _ _ _ _) ?_
      repeat refine EV.s rfl rfl rfl ?_
      refine EV.call rfl (r_right _ _ _ _) ?_
      repeat refine EV.s rfl rfl rfl ?_
      refine EV.call rfl (r_right _ _ _ _) ?_
      repeat (first | refine EV.s rfl rfl rfl ?_ | refine EW.get 0 hD rfl rfl rfl h21 ?_)
      refine EW.iald 4 1 hD rfl rfl rfl rfl (by decide) (by decide) ?_
      repeat (first | refine EV.s rfl rfl rfl ?_ | refine EW.get 0 hD rfl rfl rfl h21 ?_)
      refine EW.iald 4 2 hD rfl rfl rfl rfl (by decide) (by decide) ?_
      repeat (first | refine EV.s rfl rfl rfl ?_ | refine EW.get 0 hD rfl rfl rfl h21 ?_)
      refine EW.iald 4 1 hD rfl rfl rfl rfl (by decide) (by decide) ?_
      repeat (first | refine EV.s rfl rfl rfl ?_ | refine EW.get 0 hD rfl rfl rfl h21 ?_)
      refine EW.iald 4 2 hD rfl rfl rfl rfl (by decide) (by decide) ?_
      repeat refine EV.s rfl rfl rfl ?_
      refine r_mb3s d M fs h21 fi (nI k) _ _ _ _ A H G T K h hD hb _ (fun l7 => ?_) 7 (Nat.le_refl _) T (shf_7 T).symm _ rfl
      repeat (first | refine EV.s rfl rfl rfl ?_ | refine EW.get 0 hD rfl rfl rfl h21 ?_)
      refine EW.iald 4 4 hD rfl rfl rfl rfl (by decide) (by decide) ?_
      repeat refine EV.s rfl rfl rfl ?_
      refine EW.iast 4 4 hD rfl rfl rfl (by omega) rfl (by decide) (by decide) ?_
      repeat (first | refine EV.s rfl rfl rfl ?_ | refine EW.get 0 hD rfl rfl rfl h21 ?_)
      refine EW.iast 4 0 hD rfl rfl rfl (by omega) rfl (by decide) (by decide) ?_
      repeat refine EV.s rfl rfl rfl ?_
      refine ih (k + 1) (by omega) (mrd (K k) (G k) T) (fun j hj => ?_) _ (nI_1 k) _ _ _ _ _
      rw [mrd_eq _ _ _ hj, srd_congr _ _ hT hj]
      rfl
set_option maxHeartbeats 2000000 in
set_option maxRecDepth 100000 in
theorem r_block (d : Nat) (M fr : Nat) (fs : List Value) (h18 : fs[18]? = some (.ref (M + 12))) (h19 : fs[19]? = some (.ref (M + 13))) (h20 : fs[20]? = some (.ref (M + 14))) (h21 : fs[21]? = some (.ref (M + 15))) (hfr : fr + 16 ≤ 80) (A H G T K : Nat → Int32) (hD : [M, M + 12, M + 13, M + 14, M + 15, sa 4].Nodup) (hb : bs ≤ M) :
    CT bs sa (d + 2) 73 [.ref M, .int (nI fr)] [M, M + 12, M + 13, M + 14, M + 15, sa 4] [.inl (5, fs), .inr (.inl (80, A)), .inr (.inl (8, H)), .inr (.inl (64, G)), .inr (.inl (8, T)), .inr (.inl (64, K))]
      (fun rv o => rv = none ∧ ∃ H' G' T', o = [.inl (5, fs), .inr (.inl (80, A)), .inr (.inl (8, H')), .inr (.inl (64, G')), .inr (.inl (8, T')), .inr (.inl (64, K))] ∧ ∀ j, j < 8 → H' j = sbk K H (fun j => A (fr + j)) j) := by
  refine CT.mk (T := t_X5_block) rfl (Nat.le_of_ble_eq_true rfl) (fun h => ?_)
  repeat refine EV.s rfl rfl rfl ?_
  refine r_mb1 d M fr fs h18 h20 hfr A H G T K h hD hb _ (fun ki l3 l4 => ?_) 64 0 rfl G rfl _ rfl none none
  repeat refine EV.s rfl rfl rfl ?_
  refine r_mb2 d M fs h19 h21 (nI fr) l3 l4 none none none A H (mwi A G fr 64) T K h hD hb _ (fun ki => ?_) 8 0 rfl T (cpy_0 H T 0).symm _ rfl
  repeat refine EV.s rfl rfl rfl ?_
  refine r_mb3 d M fs h20 h21 (nI fr) A H (mwi A G fr 64) (va_cpy H T 0 0 8) K h hD hb _ (fun T' ki l3 l4 l5 l6 l7 hT => ?_) 64 0 rfl _ (fun _ _ => rfl) _ rfl l3 l4 none none none
  repeat refine EV.s rfl rfl rfl ?_
  refine r_mb4 d M fs h19 h21 (nI fr) l3 l4 l5 l6 l7 A H (mwi A G fr 64) T' K h hD hb _ ?_ 8 0 rfl H (adk_0 H T').symm _ rfl
  refine ⟨_, _, rfl, _, ⟨⟨rfl, _, _, _, rfl, fun j hj => ?_⟩, rfl⟩, rfl⟩
  simp only [adk, sbk]
  rw [if_pos hj, hT j hj, srs_congr (fun _ _ => rfl) (fun i hi => mwi_eq A G fr 64 i hi) (fun i hi => by rw [cpy_lo hi, Nat.zero_add]) 64 (Nat.le_refl _) j hj]
end MHS2
end
section
def pmd (F : Nat → Int32) (L : Nat) : Nat → Int32 := upd (upd (zf F L (16 * snb L)) L (-2147483648)) (16 * snb L - 1) (32 * nI L)
theorem pmd_eq (F : Nat → Int32) (L : Nat) : pmd F L = pmc F L := by unfold pmd pmc; rw [Int32.mul_comm]
theorem pmd_lo {F : Nat → Int32} {L j : Nat} (h : j < L) : pmd F L j = F j := by
  have hb := snb_b (L := L)
  simp only [pmd, upd, zf]
  rw [if_neg (by omega), if_neg (by omega), if_neg (by omega)]
section MDG
variable {bs : Nat} {sa : Nat → Nat}
set_option maxHeartbeats 1000000 in
set_option maxRecDepth 100000 in
theorem r_dg1 (d : Nat) (M n : Nat) (nbi : Int32) (hnb : nbi = nI (snb n)) (hn : n ≤ 61) (fs : List Value) (h18 : fs[18]? = some (.ref (M + 12))) (A H G T I K : Nat → Int32) (h : e_H) (hD : [M, M + 12, M + 13, M + 14, M + 15, sa 3, sa 4].Nodup) (hb : bs ≤ M) (E : e_C ⊕ (Option Value × e_H) → Prop)
    (hK : ∀ ki, ev_E tbs bs sa (d + 2) t_X5_digest E (33, [some (.ref M), some (.int (nI n)), some (.int nbi), some (.int ki)], [], wd [M, M + 12, M + 13, M + 14, M + 15, sa 3, sa 4] [.inl (5, fs), .inr (.inl (80, zf A n (16 * snb n))), .inr (.inl (8, H)), .inr (.inl (64, G)), .inr (.inl (8, T)), .inr (.inl (8, I)), .inr (.inl (64, K))] h)) :
    ∀ (c k : Nat), k + c = 16 * snb n → n ≤ k → ∀ Z, Z = zf A n k → ∀ ki, ki = nI k → ev_E tbs bs sa (d + 2) t_X5_digest E (17, [some (.ref M), some (.int (nI n)), some (.int nbi), some (.int ki)], [.int (16 * nbi), .int ki], wd [M, M + 12, M + 13, M + 14, M + 15, sa 3, sa 4] [.inl (5, fs), .inr (.inl (80, Z)), .inr (.inl (8, H)), .inr (.inl (64, G)), .inr (.inl (8, T)), .inr (.inl (8, I)), .inr (.inl (64, K))] h) := by
  have h64 := snb_64 hn
  have e16 : 16 * nbi = nI (16 * snb n) := by rw [hnb]; exact pk_mul 16 _
  intro c
  induction c with
  | zero =>
    intro k hk hnk Z hZ ki hki
    have e : k = 16 * snb n := by omega
    subst hZ; subst hki; subst e
    refine EV.icm rfl (fun hc => ?_) (fun hc => ?_)
    · exact hK _
    · exact absurd (by rw [e16]; exact nI_le (Nat.le_refl _) (by omega)) (of_decide_eq_false hc)
  | succ c ih =>
    intro k hk hnk Z hZ ki hki
    subst hki; subst hZ
    refine EV.icm rfl (fun hc => ?_) (fun hc => ?_)
    · exact absurd (of_decide_eq_true hc) (by rw [e16]; exact nI_ge (by omega) (by omega))
    · repeat (first | refine EV.s rfl rfl rfl ?_ | refine EW.get 0 hD rfl rfl rfl h18 ?_)
      refine EW.iast 1 k hD rfl rfl rfl (by omega) rfl (by omega) (by decide) ?_
      repeat refine EV.s rfl rfl rfl ?_
      exact ih (k + 1) (by omega) (by omega) _ (zf_s A hnk).symm _ (nI_1 k)
set_option maxHeartbeats 1000000 in
set_option maxRecDepth 100000 in
theorem r_dg2 (d : Nat) (M : Nat) (nbi ni : Int32) (fs : List Value) (h19 : fs[19]? = some (.ref (M + 13))) (A H G T I K : Nat → Int32) (h : e_H) (hD : [M, M + 12, M + 13, M + 14, M + 15, sa 3, sa 4].Nodup) (hb : bs ≤ M) (E : e_C ⊕ (Option Value × e_H) → Prop)
    (hK : ∀ ki, ev_E tbs bs sa (d + 2) t_X5_digest E (81, [some (.ref M), some (.int ni), some (.int nbi), some (.int ki)], [], wd [M, M + 12, M + 13, M + 14, M + 15, sa 3, sa 4] [.inl (5, fs), .inr (.inl (80, A)), .inr (.inl (8, va_cpy I H 0 0 8)), .inr (.inl (64, G)), .inr (.inl (8, T)), .inr (.inl (8, I)), .inr (.inl (64, K))] h)) :
    ∀ (c k : Nat), k + c = 8 → ∀ Z, Z = va_cpy I H 0 0 k → ∀ ki, ki = nI k → ev_E tbs bs sa (d + 2) t_X5_digest E (61, [some (.ref M), some (.int ni), some (.int nbi), some (.int ki)], [.int 8, .int ki], wd [M, M + 12, M + 13, M + 14, M + 15, sa 3, sa 4] [.inl (5, fs), .inr (.inl (80, A)), .inr (.inl (8, Z)), .inr (.inl (64, G)), .inr (.inl (8, T)), .inr (.inl (8, I)), .inr (.inl (64, K))] h) := by
  intro c
  induction c with
  | zero =>
    intro k hk Z hZ ki hki
    have e : k = 8 := by omega
    subst e; subst hZ; subst hki
    refine EV.icm rfl (fun hc => ?_) (fun hc => ?_)
    · exact hK _
    · exact absurd (by decide : (8 : Int32) ≤ nI 8) (of_decide_eq_false hc)
  | succ c ih =>
    intro k hk Z hZ ki hki
    subst hki; subst hZ
    refine EV.icm rfl (fun hc => ?_) (fun hc => ?_)
    · exact absurd (of_decide_eq_true hc) (nI_ge (b := 8) (by omega) (by decide))
    · repeat (first | refine EV.s rfl rfl rfl ?_ | refine EW.get 0 hD rfl rfl rfl h19 ?_)
      refine EW.iald 5 k hD rfl rfl rfl rfl (by omega) (by decide) ?_
      refine EW.iast 2 k hD rfl rfl rfl (by omega) rfl (by omega) (by decide) ?_
      repeat refine EV.s rfl rfl rfl ?_
      refine ih (k + 1) (by omega) _ ?_ _ (nI_1 k)
      rw [cpy_s, Nat.zero_add]
set_option maxHeartbeats 1000000 in
set_option maxRecDepth 100000 in
theorem r_dg3 (d : Nat) (M nb : Nat) (nbi ni : Int32) (hnb : nbi = nI nb) (h64 : 16 * nb ≤ 64) (fs : List Value) (h18 : fs[18]? = some (.ref (M + 12))) (h19 : fs[19]? = some (.ref (M + 13))) (h20 : fs[20]? = some (.ref (M + 14))) (h21 : fs[21]? = some (.ref (M + 15))) (A H0 I K : Nat → Int32) (h : e_H) (hD : [M, M + 12, M + 13, M + 14, M + 15, sa 3, sa 4].Nodup) (hb : bs ≤ M) (E : e_C ⊕ (Option Value × e_H) → Prop)
    (hK : ∀ H G T, (∀ j, j < 8 → H j = sbs K A H0 nb j) → E (.inr (none, wd [M, M + 12, M + 13, M + 14, M + 15, sa 3, sa 4] [.inl (5, fs), .inr (.inl (80, A)), .inr (.inl (8, H)), .inr (.inl (64, G)), .inr (.inl (8, T)), .inr (.inl (8, I)), .inr (.inl (64, K))] h))) :
    ∀ (c b : Nat), b + c = nb → ∀ H G T, (∀ j, j < 8 → H j = sbs K A H0 b j) → ∀ ki, ki = nI b → ev_E tbs bs sa (d + 2) t_X5_digest E (85, [some (.ref M), some (.int ni), some (.int nbi), some (.int ki)], [.int nbi, .int ki], wd [M, M + 12, M + 13, M + 14, M + 15, sa 3, sa 4] [.inl (5, fs), .inr (.inl (80, A)), .inr (.inl (8, H)), .inr (.inl (64, G)), .inr (.inl (8, T)), .inr (.inl (8, I)), .inr (.inl (64, K))] h) := by
  intro c
  induction c with
  | zero =>
    intro b hk H G T hH ki hki
    have e : b = nb := by omega
    subst e; subst hki
    refine EV.icm rfl (fun hc => ?_) (fun hc => ?_)
    · refine EV.ret rfl ?_
      exact hK H G T hH
    · exact absurd (by rw [hnb]; exact nI_le (Nat.le_refl _) (by omega)) (of_decide_eq_false hc)
  | succ c ih =>
    intro b hk H G T hH ki hki
    subst hki
    refine EV.icm rfl (fun hc => ?_) (fun hc => ?_)
    · exact absurd (of_decide_eq_true hc) (by rw [hnb]; exact nI_ge (by omega) (by omega))
    · repeat refine EV.s rfl rfl rfl ?_
      refine EW.cvE 0 [0, 1, 2, 3, 4, 6] hD (r_block d M (16 * b) fs h18 h19 h20 h21 (by omega) A H G T K (nd_sub hD [0, 1, 2, 3, 4, 6] (by decide) rfl) hb) rfl rfl rfl rfl rfl (Nat.le_of_ble_eq_true rfl) (Nat.le_of_ble_eq_true rfl) (congrArg (fun q => [Value.ref M, Value.int q]) (pk_mul 16 b).symm) rfl rfl ?_
      rintro rv os2 ⟨rfl, H', G', T', rfl, hH'⟩
      try simp only [setm, List.set_cons_succ, List.set_cons_zero, Option.toList, List.nil_append, List.cons_append]
      repeat refine EV.s rfl rfl rfl ?_
      refine ih (b + 1) (by omega) H' G' T' (fun j hj => ?_) _ (nI_1 b)
      rw [hH' j hj]
      simp only [sbs, sbk]
      rw [hH j hj, srs_congr (fun _ _ => rfl) (fun _ _ => rfl) hH 64 (Nat.le_refl _) j hj]
set_option maxHeartbeats 1000000 in
set_option maxRecDepth 100000 in
theorem r_digest (d : Nat) (M n : Nat) (hn : n ≤ 61) (fs : List Value) (h18 : fs[18]? = some (.ref (M + 12))) (h19 : fs[19]? = some (.ref (M + 13))) (h20 : fs[20]? = some (.ref (M + 14))) (h21 : fs[21]? = some (.ref (M + 15))) (A H G T I K : Nat → Int32) (hD : [M, M + 12, M + 13, M + 14, M + 15, sa 3, sa 4].Nodup) (hb : bs ≤ M) :
    CT bs sa (d + 3) 72 [.ref M, .int (nI n)] [M, M + 12, M + 13, M + 14, M + 15, sa 3, sa 4] [.inl (5, fs), .inr (.inl (80, A)), .inr (.inl (8, H)), .inr (.inl (64, G)), .inr (.inl (8, T)), .inr (.inl (8, I)), .inr (.inl (64, K))]
      (fun rv o => rv = none ∧ ∃ H' G' T', o = [.inl (5, fs), .inr (.inl (80, pmd A n)), .inr (.inl (8, H')), .inr (.inl (64, G')), .inr (.inl (8, T')), .inr (.inl (8, I)), .inr (.inl (64, K))] ∧ ∀ j, j < 8 → H' j = sha K I A n j) := by
  have hb2 := snb_b (L := n)
  have h64 := snb_64 hn
  have hnb : (nI n + 3 + 15) / 16 = nI (snb n) := by
    have e1 : nI n + 3 = nI (n + 3) := nI_add n 3
    have e2 : nI (n + 3) + 15 = nI (n + 3 + 15) := nI_add _ 15
    have e4 : nI (n + 3 + 15) / 16 = nI ((n + 3 + 15) / 16) := pk_div (d := 16) (by omega) (by omega) (by omega)
    rw [e1, e2, e4]; rfl
  have e16 : 16 * ((nI n + 3 + 15) / 16) = nI (16 * snb n) := by rw [hnb]; exact pk_mul 16 _
  refine CT.mk (T := t_X5_digest) rfl (Nat.le_of_ble_eq_true rfl) (fun h => ?_)
  repeat refine EV.s rfl rfl rfl ?_
  refine r_dg1 d M n _ hnb hn fs h18 A H G T I K h hD hb _ (fun ki => ?_) (16 * snb n - n) n (by omega) (Nat.le_refl _) A (zf_0 A n).symm _ rfl
  repeat (first | refine EV.s rfl rfl rfl ?_ | refine EW.get 0 hD rfl rfl rfl h18 ?_)
  refine EW.iast 1 n hD rfl rfl rfl (by omega) rfl (by omega) (by decide) ?_
  repeat (first | refine EV.s rfl rfl rfl ?_ | refine EW.get 0 hD rfl rfl rfl h18 ?_)
  refine EW.iast 1 (16 * snb n - 1) hD rfl rfl rfl (by omega) (by rw [← pk_sub (b := 1) (by omega), ← e16]; rfl) (by omega) (by decide) ?_
  repeat refine EV.s rfl rfl rfl ?_
  refine r_dg2 d M _ (nI n) fs h19 (pmd A n) H G T I K h hD hb _ (fun ki => ?_) 8 0 rfl H (cpy_0 I H 0).symm _ rfl
  repeat refine EV.s rfl rfl rfl ?_
  refine r_dg3 d M (snb n) _ (nI n) hnb (by omega) fs h18 h19 h20 h21 (pmd A n) (va_cpy I H 0 0 8) I K h hD hb _ (fun H' G' T' hH => ?_) (snb n) 0 (by omega) _ G T (fun _ _ => rfl) _ rfl
  refine ⟨_, _, rfl, _, ⟨⟨rfl, H', G', T', rfl, fun j hj => ?_⟩, rfl⟩, rfl⟩
  rw [hH j hj]
  exact sbs_congr (N := snb n) (fun _ _ => rfl) (fun i hi => by rw [pmd_eq]; exact pmc_get hi) (fun i hi => by rw [cpy_lo hi, Nat.zero_add]) (snb n) (Nat.le_refl _) j hj
end MDG
end
section
section MTG
variable {bs : Nat} {sa : Nat → Nat}
set_option maxHeartbeats 1000000 in
set_option maxRecDepth 100000 in
theorem r_tg1 (d M : Nat) (fs : List Value) (h12 : fs[12]? = some (.ref (M + 11))) (h18 : fs[18]? = some (.ref (M + 12))) (B mark A H G T I K : Nat → Int32) (hb : bs ≤ M) (h : e_H) (hD : [M, M + 9, M + 11, M + 12, M + 13, M + 14, M + 15, sa 3, sa 4].Nodup) (E : e_C ⊕ (Option Value × e_H) → Prop)
    (hK : ∀ (ki : Int32), ev_E tbs bs sa (d + 3) t_X5_tag E (39, [some (.ref M), some (.int ki)], [], wd [M, M + 9, M + 11, M + 12, M + 13, M + 14, M + 15, sa 3, sa 4] [.inl (5, fs), .inr (.inl (64, B)), .inr (.inl (8, mark)), .inr (.inl (80, mbk mark 909522486 A 16)), .inr (.inl (8, H)), .inr (.inl (64, G)), .inr (.inl (8, T)), .inr (.inl (8, I)), .inr (.inl (64, K))] h)) :
    ∀ (c k : Nat), k + c = 16 → ∀ Z, Z = mbk mark 909522486 A k → ∀ (ki : Int32), ki = nI k → ev_E tbs bs sa (d + 3) t_X5_tag E (5, [some (.ref M), some (.int ki)], [.int 16, .int ki], wd [M, M + 9, M + 11, M + 12, M + 13, M + 14, M + 15, sa 3, sa 4] [.inl (5, fs), .inr (.inl (64, B)), .inr (.inl (8, mark)), .inr (.inl (80, Z)), .inr (.inl (8, H)), .inr (.inl (64, G)), .inr (.inl (8, T)), .inr (.inl (8, I)), .inr (.inl (64, K))] h) := by
  intro c
  induction c with
  | zero =>
    intro k hkc Z hZ ki hki
    have e : k = 16 := by omega
    subst e; subst hZ; subst hki
    refine EV.icm rfl (fun hc => ?_) (fun hc => ?_)
    · exact hK _
    · exact absurd (by decide : (16 : Int32) ≤ nI 16) (of_decide_eq_false hc)
  | succ c ih =>
    intro k hkc Z hZ ki hki
    subst hki; subst hZ
    refine EV.icm rfl (fun hc => ?_) (fun hc => ?_)
    · exact absurd (of_decide_eq_true hc) (nI_ge (b := 16) (by omega) (by decide))
    · repeat (first | refine EV.s rfl rfl rfl ?_ | refine EW.get 0 hD rfl rfl rfl h18 ?_)
      refine EV.icm rfl (fun hc8 => ?_) (fun hc8 => ?_)
      · have h8 : ¬ k < 8 := fun q => absurd (of_decide_eq_true hc8) (nI_ge (b := 8) q (by decide))
        repeat refine EV.s rfl rfl rfl ?_
        refine EW.iast 3 k hD rfl rfl rfl (by omega) rfl (by omega) (by decide) ?_
        repeat refine EV.s rfl rfl rfl ?_
        exact ih (k + 1) (by omega) _ (by rw [mbk_s, hk, if_neg h8]; congr 1) _ (nI_1 k)
      · have h8 : k < 8 := by
          rcases Nat.lt_or_ge k 8 with q | q
          · exact q
          · exact absurd (nI_le (a := 8) q (by omega)) (of_decide_eq_false hc8)
        repeat (first | refine EV.s rfl rfl rfl ?_ | refine EW.get 0 hD rfl rfl rfl h12 ?_)
        refine EW.iald 2 k hD rfl rfl rfl rfl h8 (by decide) ?_
        repeat refine EV.s rfl rfl rfl ?_
        refine EW.iast 3 k hD rfl rfl rfl (by omega) rfl (by omega) (by decide) ?_
        repeat refine EV.s rfl rfl rfl ?_
        exact ih (k + 1) (by omega) _ (by rw [mbk_s, hk, if_pos h8]) _ (nI_1 k)
set_option maxHeartbeats 1000000 in
set_option maxRecDepth 100000 in
theorem r_tg2 (d M : Nat) (fs : List Value) (h10 : fs[10]? = some (.ref (M + 9))) (h18 : fs[18]? = some (.ref (M + 12))) (B mark A H G T I K : Nat → Int32) (hb : bs ≤ M) (h : e_H) (hD : [M, M + 9, M + 11, M + 12, M + 13, M + 14, M + 15, sa 3, sa 4].Nodup) (E : e_C ⊕ (Option Value × e_H) → Prop)
    (hK : ∀ (ki : Int32), ev_E tbs bs sa (d + 3) t_X5_tag E (68, [some (.ref M), some (.int ki)], [], wd [M, M + 9, M + 11, M + 12, M + 13, M + 14, M + 15, sa 3, sa 4] [.inl (5, fs), .inr (.inl (64, B)), .inr (.inl (8, mark)), .inr (.inl (80, va_cpy B A 0 16 40)), .inr (.inl (8, H)), .inr (.inl (64, G)), .inr (.inl (8, T)), .inr (.inl (8, I)), .inr (.inl (64, K))] h)) :
    ∀ (c k : Nat), k + c = 40 → ∀ Z, Z = va_cpy B A 0 16 k → ∀ (ki : Int32), ki = nI k → ev_E tbs bs sa (d + 3) t_X5_tag E (44, [some (.ref M), some (.int ki)], [.int 40, .int ki], wd [M, M + 9, M + 11, M + 12, M + 13, M + 14, M + 15, sa 3, sa 4] [.inl (5, fs), .inr (.inl (64, B)), .inr (.inl (8, mark)), .inr (.inl (80, Z)), .inr (.inl (8, H)), .inr (.inl (64, G)), .inr (.inl (8, T)), .inr (.inl (8, I)), .inr (.inl (64, K))] h) := by
  intro c
  induction c with
  | zero =>
    intro k hkc Z hZ ki hki
    have e : k = 40 := by omega
    subst e; subst hZ; subst hki
    refine EV.icm rfl (fun hc => ?_) (fun hc => ?_)
    · exact hK _
    · exact absurd (by decide : (40 : Int32) ≤ nI 40) (of_decide_eq_false hc)
  | succ c ih =>
    intro k hkc Z hZ ki hki
    subst hki; subst hZ
    refine EV.icm rfl (fun hc => ?_) (fun hc => ?_)
    · exact absurd (of_decide_eq_true hc) (nI_ge (b := 40) (by omega) (by decide))
    · repeat (first | refine EV.s rfl rfl rfl ?_ | refine EW.get 0 hD rfl rfl rfl h10 ?_ | refine EW.get 0 hD rfl rfl rfl h18 ?_)
      refine EW.iald 1 k hD rfl rfl rfl rfl (by omega) (by decide) ?_
      refine EW.iast 3 (16 + k) hD rfl rfl rfl (by omega) (nI_add 16 k) (by omega) (by decide) ?_
      repeat refine EV.s rfl rfl rfl ?_
      exact ih (k + 1) (by omega) _ ((cpy_s B A 16 k).symm) _ (nI_1 k)
set_option maxHeartbeats 1000000 in
set_option maxRecDepth 100000 in
theorem r_tg3 (d M : Nat) (fs : List Value) (h18 : fs[18]? = some (.ref (M + 12))) (h19 : fs[19]? = some (.ref (M + 13))) (B mark A H G T I K : Nat → Int32) (hb : bs ≤ M) (h : e_H) (hD : [M, M + 9, M + 11, M + 12, M + 13, M + 14, M + 15, sa 3, sa 4].Nodup) (E : e_C ⊕ (Option Value × e_H) → Prop)
    (hK : ∀ (ki : Int32), ev_E tbs bs sa (d + 3) t_X5_tag E (103, [some (.ref M), some (.int ki)], [], wd [M, M + 9, M + 11, M + 12, M + 13, M + 14, M + 15, sa 3, sa 4] [.inl (5, fs), .inr (.inl (64, B)), .inr (.inl (8, mark)), .inr (.inl (80, va_cpy H A 0 16 8)), .inr (.inl (8, H)), .inr (.inl (64, G)), .inr (.inl (8, T)), .inr (.inl (8, I)), .inr (.inl (64, K))] h)) :
    ∀ (c k : Nat), k + c = 8 → ∀ Z, Z = va_cpy H A 0 16 k → ∀ (ki : Int32), ki = nI k → ev_E tbs bs sa (d + 3) t_X5_tag E (79, [some (.ref M), some (.int ki)], [.int 8, .int ki], wd [M, M + 9, M + 11, M + 12, M + 13, M + 14, M + 15, sa 3, sa 4] [.inl (5, fs), .inr (.inl (64, B)), .inr (.inl (8, mark)), .inr (.inl (80, Z)), .inr (.inl (8, H)), .inr (.inl (64, G)), .inr (.inl (8, T)), .inr (.inl (8, I)), .inr (.inl (64, K))] h) := by
  intro c
  induction c with
  | zero =>
    intro k hkc Z hZ ki hki
    have e : k = 8 := by omega
    subst e; subst hZ; subst hki
    refine EV.icm rfl (fun hc => ?_) (fun hc => ?_)
    · exact hK _
    · exact absurd (by decide : (8 : Int32) ≤ nI 8) (of_decide_eq_false hc)
  | succ c ih =>
    intro k hkc Z hZ ki hki
    subst hki; subst hZ
    refine EV.icm rfl (fun hc => ?_) (fun hc => ?_)
    · exact absurd (of_decide_eq_true hc) (nI_ge (b := 8) (by omega) (by decide))
    · repeat (first | refine EV.s rfl rfl rfl ?_ | refine EW.get 0 hD rfl rfl rfl h18 ?_ | refine EW.get 0 hD rfl rfl rfl h19 ?_)
      refine EW.iald 4 k hD rfl rfl rfl rfl (by omega) (by decide) ?_
      refine EW.iast 3 (16 + k) hD rfl rfl rfl (by omega) (nI_add 16 k) (by omega) (by decide) ?_
      repeat refine EV.s rfl rfl rfl ?_
      exact ih (k + 1) (by omega) _ ((cpy_s H A 16 k).symm) _ (nI_1 k)
set_option maxHeartbeats 1000000 in
set_option maxRecDepth 100000 in
theorem r_tg4 (d M : Nat) (fs : List Value) (h12 : fs[12]? = some (.ref (M + 11))) (h18 : fs[18]? = some (.ref (M + 12))) (B mark A H G T I K : Nat → Int32) (hb : bs ≤ M) (h : e_H) (hD : [M, M + 9, M + 11, M + 12, M + 13, M + 14, M + 15, sa 3, sa 4].Nodup) (E : e_C ⊕ (Option Value × e_H) → Prop)
    (hK : ∀ (ki : Int32), ev_E tbs bs sa (d + 3) t_X5_tag E (142, [some (.ref M), some (.int ki)], [], wd [M, M + 9, M + 11, M + 12, M + 13, M + 14, M + 15, sa 3, sa 4] [.inl (5, fs), .inr (.inl (64, B)), .inr (.inl (8, mark)), .inr (.inl (80, mbk mark 1549556828 A 16)), .inr (.inl (8, H)), .inr (.inl (64, G)), .inr (.inl (8, T)), .inr (.inl (8, I)), .inr (.inl (64, K))] h)) :
    ∀ (c k : Nat), k + c = 16 → ∀ Z, Z = mbk mark 1549556828 A k → ∀ (ki : Int32), ki = nI k → ev_E tbs bs sa (d + 3) t_X5_tag E (108, [some (.ref M), some (.int ki)], [.int 16, .int ki], wd [M, M + 9, M + 11, M + 12, M + 13, M + 14, M + 15, sa 3, sa 4] [.inl (5, fs), .inr (.inl (64, B)), .inr (.inl (8, mark)), .inr (.inl (80, Z)), .inr (.inl (8, H)), .inr (.inl (64, G)), .inr (.inl (8, T)), .inr (.inl (8, I)), .inr (.inl (64, K))] h) := by
  intro c
  induction c with
  | zero =>
    intro k hkc Z hZ ki hki
    have e : k = 16 := by omega
    subst e; subst hZ; subst hki
    refine EV.icm rfl (fun hc => ?_) (fun hc => ?_)
    · exact hK _
    · exact absurd (by decide : (16 : Int32) ≤ nI 16) (of_decide_eq_false hc)
  | succ c ih =>
    intro k hkc Z hZ ki hki
    subst hki; subst hZ
    refine EV.icm rfl (fun hc => ?_) (fun hc => ?_)
    · exact absurd (of_decide_eq_true hc) (nI_ge (b := 16) (by omega) (by decide))
    · repeat (first | refine EV.s rfl rfl rfl ?_ | refine EW.get 0 hD rfl rfl rfl h18 ?_)
      refine EV.icm rfl (fun hc8 => ?_) (fun hc8 => ?_)
      · have h8 : ¬ k < 8 := fun q => absurd (of_decide_eq_true hc8) (nI_ge (b := 8) q (by decide))
        repeat refine EV.s rfl rfl rfl ?_
        refine EW.iast 3 k hD rfl rfl rfl (by omega) rfl (by omega) (by decide) ?_
        repeat refine EV.s rfl rfl rfl ?_
        exact ih (k + 1) (by omega) _ (by rw [mbk_s, hk, if_neg h8]; congr 1) _ (nI_1 k)
      · have h8 : k < 8 := by
          rcases Nat.lt_or_ge k 8 with q | q
          · exact q
          · exact absurd (nI_le (a := 8) q (by omega)) (of_decide_eq_false hc8)
        repeat (first | refine EV.s rfl rfl rfl ?_ | refine EW.get 0 hD rfl rfl rfl h12 ?_)
        refine EW.iald 2 k hD rfl rfl rfl rfl h8 (by decide) ?_
        repeat refine EV.s rfl rfl rfl ?_
        refine EW.iast 3 k hD rfl rfl rfl (by omega) rfl (by omega) (by decide) ?_
        repeat refine EV.s rfl rfl rfl ?_
        exact ih (k + 1) (by omega) _ (by rw [mbk_s, hk, if_pos h8]) _ (nI_1 k)
set_option maxHeartbeats 1000000 in
set_option maxRecDepth 100000 in
theorem r_tag (d M : Nat) (fs : List Value) (h10 : fs[10]? = some (.ref (M + 9))) (h12 : fs[12]? = some (.ref (M + 11))) (h18 : fs[18]? = some (.ref (M + 12))) (h19 : fs[19]? = some (.ref (M + 13))) (h20 : fs[20]? = some (.ref (M + 14))) (h21 : fs[21]? = some (.ref (M + 15))) (B mark A H G T I K : Nat → Int32) (hD : [M, M + 9, M + 11, M + 12, M + 13, M + 14, M + 15, sa 3, sa 4].Nodup) (hb : bs ≤ M) :
    CT bs sa (d + 4) 74 [.ref M] [M, M + 9, M + 11, M + 12, M + 13, M + 14, M + 15, sa 3, sa 4] [.inl (5, fs), .inr (.inl (64, B)), .inr (.inl (8, mark)), .inr (.inl (80, A)), .inr (.inl (8, H)), .inr (.inl (64, G)), .inr (.inl (8, T)), .inr (.inl (8, I)), .inr (.inl (64, K))]
      (fun rv o => rv = none ∧ ∃ A' H' G' T', o = [.inl (5, fs), .inr (.inl (64, B)), .inr (.inl (8, mark)), .inr (.inl (80, A')), .inr (.inl (8, H')), .inr (.inl (64, G')), .inr (.inl (8, T')), .inr (.inl (8, I)), .inr (.inl (64, K))] ∧ ∀ j, j < 8 → H' j = hmo K I mark B 40 j) := by
  refine CT.mk (T := t_X5_tag) rfl (Nat.le_of_ble_eq_true rfl) (fun h => ?_)
  repeat refine EV.s rfl rfl rfl ?_
  refine r_tg1 d M fs h12 h18 B mark A H G T I K hb h hD _ (fun ki => ?_) 16 0 rfl A (mbk_0 _ _ _).symm _ rfl
  repeat refine EV.s rfl rfl rfl ?_
  refine r_tg2 d M fs h10 h18 B mark (mbk mark 909522486 A 16) H G T I K hb h hD _ (fun ki => ?_) 40 0 rfl _ (cpy_0 _ _ _).symm _ rfl
  repeat refine EV.s rfl rfl rfl ?_
  refine EW.cvE 0 [0, 3, 4, 5, 6, 7, 8] hD (r_digest d M 56 (by decide) fs h18 h19 h20 h21 (va_cpy B (mbk mark 909522486 A 16) 0 16 40) H G T I K (nd_sub hD [0, 3, 4, 5, 6, 7, 8] (by decide) rfl) hb) rfl rfl rfl rfl rfl (Nat.le_of_ble_eq_true rfl) (Nat.le_of_ble_eq_true rfl) rfl rfl rfl ?_
  rintro rv os2 ⟨rfl, H1, G1, T1, rfl, hH1⟩
  try simp only [setm, List.set_cons_succ, List.set_cons_zero, Option.toList, List.nil_append, List.cons_append]
  repeat refine EV.s rfl rfl rfl ?_
  refine r_tg3 d M fs h18 h19 B mark (pmd (va_cpy B (mbk mark 909522486 A 16) 0 16 40) 56) H1 G1 T1 I K hb h hD _ (fun ki => ?_) 8 0 rfl _ (cpy_0 _ _ _).symm _ rfl
  repeat refine EV.s rfl rfl rfl ?_
  refine r_tg4 d M fs h12 h18 B mark (va_cpy H1 (pmd (va_cpy B (mbk mark 909522486 A 16) 0 16 40) 56) 0 16 8) H1 G1 T1 I K hb h hD _ (fun ki => ?_) 16 0 rfl _ (mbk_0 _ _ _).symm _ rfl
  repeat refine EV.s rfl rfl rfl ?_
  refine EW.cvE 0 [0, 3, 4, 5, 6, 7, 8] hD (r_digest d M 24 (by decide) fs h18 h19 h20 h21 (mbk mark 1549556828 (va_cpy H1 (pmd (va_cpy B (mbk mark 909522486 A 16) 0 16 40) 56) 0 16 8) 16) H1 G1 T1 I K (nd_sub hD [0, 3, 4, 5, 6, 7, 8] (by decide) rfl) hb) rfl rfl rfl rfl rfl (Nat.le_of_ble_eq_true rfl) (Nat.le_of_ble_eq_true rfl) rfl rfl rfl ?_
  rintro rv os2 ⟨rfl, H2, G2, T2, rfl, hH2⟩
  try simp only [setm, List.set_cons_succ, List.set_cons_zero, Option.toList, List.nil_append, List.cons_append]
  refine EV.ret rfl ⟨_, _, rfl, _, ⟨⟨rfl, _, H2, _, _, rfl, fun j hj => ?_⟩, rfl⟩, rfl⟩
  rw [hH2 j hj]
  refine sha_congr (fun _ _ => rfl) (fun _ _ => rfl) (fun i hi => ?_) hj
  simp only [mbk]
  by_cases q : i < 16
  · rw [if_pos q, if_pos q]
  · rw [if_neg q, if_neg q]
    have e : va_cpy H1 (pmd (va_cpy B (mbk mark 909522486 A 16) 0 16 40) 56) 0 16 8 i = H1 (i - 16) := by
      simp only [va_cpy]; rw [if_pos (by omega), Nat.zero_add]
    rw [e, hH1 _ (by omega)]
    exact sha_congr (fun _ _ => rfl) (fun _ _ => rfl) (fun i hi => mbk_cpy mark B A _ (n := 40) hi) (by omega)
set_option maxHeartbeats 1000000 in
set_option maxRecDepth 100000 in
theorem r_quarter (d : Nat) (M a b c e : Nat) (fs : List Value) (h23 : fs[23]? = some (.ref (M + 17))) (B : Nat → Int32) (h : e_H) (hD : [M, M + 17].Nodup) (hbb : bs ≤ M) (ha : a < 16) (hb : b < 16) (hc : c < 16) (he : e < 16) :
    ev_run tbs bs sa (d + 2) 75 [.ref M, .int (nI a), .int (nI b), .int (nI c), .int (nI e)] (wd [M, M + 17] [.inl (5, fs), .inr (.inl (16, B))] h) none (wd [M, M + 17] [.inl (5, fs), .inr (.inl (16, qr B a b c e))] h) := by
  refine RUN.mk (T := t_X5_quarter) rfl (Nat.le_of_ble_eq_true rfl) ?_
  repeat (first | refine EV.s rfl rfl rfl ?_ | refine EW.get 0 hD rfl rfl rfl h23 ?_)
  refine EW.iald 1 a hD rfl rfl rfl rfl ha (by decide) ?_
  repeat (first | refine EV.s rfl rfl rfl ?_ | refine EW.get 0 hD rfl rfl rfl h23 ?_)
  refine EW.iald 1 b hD rfl rfl rfl rfl hb (by decide) ?_
  repeat refine EV.s rfl rfl rfl ?_
  refine EW.iast 1 a hD rfl rfl rfl (by omega) rfl ha (by decide) ?_
  repeat (first | refine EV.s rfl rfl rfl ?_ | refine EW.get 0 hD rfl rfl rfl h23 ?_)
  refine EW.iald 1 e hD rfl rfl rfl rfl he (by decide) ?_
  repeat (first | refine EV.s rfl rfl rfl ?_ | refine EW.get 0 hD rfl rfl rfl h23 ?_)
  refine EW.iald 1 a hD rfl rfl rfl rfl ha (by decide) ?_
  repeat refine EV.s rfl rfl rfl ?_
  refine EV.call rfl (r_right _ _ _ _) ?_
  refine EW.iast 1 e hD rfl rfl rfl (by omega) rfl he (by decide) ?_
  repeat (first | refine EV.s rfl rfl rfl ?_ | refine EW.get 0 hD rfl rfl rfl h23 ?_)
  refine EW.iald 1 c hD rfl rfl rfl rfl hc (by decide) ?_
  repeat (first | refine EV.s rfl rfl rfl ?_ | refine EW.get 0 hD rfl rfl rfl h23 ?_)
  refine EW.iald 1 e hD rfl rfl rfl rfl he (by decide) ?_
  repeat refine EV.s rfl rfl rfl ?_
  refine EW.iast 1 c hD rfl rfl rfl (by omega) rfl hc (by decide) ?_
  repeat (first | refine EV.s rfl rfl rfl ?_ | refine EW.get 0 hD rfl rfl rfl h23 ?_)
  refine EW.iald 1 b hD rfl rfl rfl rfl hb (by decide) ?_
  repeat (first | refine EV.s rfl rfl rfl ?_ | refine EW.get 0 hD rfl rfl rfl h23 ?_)
  refine EW.iald 1 c hD rfl rfl rfl rfl hc (by decide) ?_
  repeat refine EV.s rfl rfl rfl ?_
  refine EV.call rfl (r_right _ _ _ _) ?_
  refine EW.iast 1 b hD rfl rfl rfl (by omega) rfl hb (by decide) ?_
  repeat (first | refine EV.s rfl rfl rfl ?_ | refine EW.get 0 hD rfl rfl rfl h23 ?_)
  refine EW.iald 1 a hD rfl rfl rfl rfl ha (by decide) ?_
  repeat (first | refine EV.s rfl rfl rfl ?_ | refine EW.get 0 hD rfl rfl rfl h23 ?_)
  refine EW.iald 1 b hD rfl rfl rfl rfl hb (by decide) ?_
  repeat refine EV.s rfl rfl rfl ?_
  refine EW.iast 1 a hD rfl rfl rfl (by omega) rfl ha (by decide) ?_
  repeat (first | refine EV.s rfl rfl rfl ?_ | refine EW.get 0 hD rfl rfl rfl h23 ?_)
  refine EW.iald 1 e hD rfl rfl rfl rfl he (by decide) ?_
  repeat (first | refine EV.s rfl rfl rfl ?_ | refine EW.get 0 hD rfl rfl rfl h23 ?_)
  refine EW.iald 1 a hD rfl rfl rfl rfl ha (by decide) ?_
  repeat refine EV.s rfl rfl rfl ?_
  refine EV.call rfl (r_right _ _ _ _) ?_
  refine EW.iast 1 e hD rfl rfl rfl (by omega) rfl he (by decide) ?_
  repeat (first | refine EV.s rfl rfl rfl ?_ | refine EW.get 0 hD rfl rfl rfl h23 ?_)
  refine EW.iald 1 c hD rfl rfl rfl rfl hc (by decide) ?_
  repeat (first | refine EV.s rfl rfl rfl ?_ | refine EW.get 0 hD rfl rfl rfl h23 ?_)
  refine EW.iald 1 e hD rfl rfl rfl rfl he (by decide) ?_
  repeat refine EV.s rfl rfl rfl ?_
  refine EW.iast 1 c hD rfl rfl rfl (by omega) rfl hc (by decide) ?_
  repeat (first | refine EV.s rfl rfl rfl ?_ | refine EW.get 0 hD rfl rfl rfl h23 ?_)
  refine EW.iald 1 b hD rfl rfl rfl rfl hb (by decide) ?_
  repeat (first | refine EV.s rfl rfl rfl ?_ | refine EW.get 0 hD rfl rfl rfl h23 ?_)
  refine EW.iald 1 c hD rfl rfl rfl rfl hc (by decide) ?_
  repeat refine EV.s rfl rfl rfl ?_
  refine EV.call rfl (r_right _ _ _ _) ?_
  refine EW.iast 1 b hD rfl rfl rfl (by omega) rfl hb (by decide) ?_
  refine EV.ret rfl ?_
  rfl
end MTG
end
section
/-- four quarters in columns, four in diagonals -/
def qco (B : Nat → Int32) : Nat → Nat → Int32
  | 0 => B
  | k + 1 => qr (qco B k) k (4 + k) (8 + k) (12 + k)
def qdi (B : Nat → Int32) : Nat → Nat → Int32
  | 0 => B
  | k + 1 => qr (qdi B k) k (4 + (k + 1) % 4) (8 + (k + 2) % 4) (12 + (k + 3) % 4)
theorem qdi_dr (B : Nat → Int32) : qdi (qco B 4) 4 = dr B := rfl
def cc4 (k : Nat) : Int32 := if k = 0 then 1634760805 else if k = 1 then 857760878 else if k = 2 then 2036477234 else 1797285236
theorem cha_congr {C C' key key' : Nat → Int32} (hC : ∀ k, k < 4 → C k = C' k) (hk : ∀ k, k < 8 → key k = key' k) (ct u l : Int32) : al (cha C key ct u l) (cha C' key' ct u l) := by
  have h : al (cst C key ct u l) (cst C' key' ct u l) := by
    intro k hk16
    simp only [cst]
    by_cases q : k < 4
    · rw [if_pos q, if_pos q, hC k q]
    · rw [if_neg q, if_neg q]
      by_cases q2 : k < 12
      · rw [if_pos q2, if_pos q2, hk _ (by omega)]
      · rw [if_neg q2, if_neg q2]
  intro k hk16
  simp only [cha]
  rw [drs_al h 10 k hk16, h k hk16]
def mst (key S : Nat → Int32) (ct u l : Int32) : Nat → Int32 := upd (upd (upd (upd (va_cpy key (upd (upd (upd (upd S 0 1634760805) 1 857760878) 2 2036477234) 3 1797285236) 0 4 8) 12 ct) 13 0) 14 u) 15 l
theorem mst_al (key S : Nat → Int32) (ct u l : Int32) : al (mst key S ct u l) (cst cc4 key ct u l) := by
  intro k hk
  simp only [mst, cst, upd, va_cpy]
  by_cases h4 : k < 4
  · rw [if_neg (by omega), if_neg (by omega), if_neg (by omega), if_neg (by omega), if_neg (by omega), if_pos h4]
    have : k = 0 ∨ k = 1 ∨ k = 2 ∨ k = 3 := by omega
    rcases this with rfl | rfl | rfl | rfl <;> simp [cc4]
  · rw [if_neg h4]
    by_cases h12 : k < 12
    · rw [if_neg (by omega), if_neg (by omega), if_neg (by omega), if_neg (by omega), if_pos (by omega), if_pos h12]; congr 1; omega
    · rw [if_neg h12]
      have : k = 12 ∨ k = 13 ∨ k = 14 ∨ k = 15 := by omega
      rcases this with rfl | rfl | rfl | rfl <;> simp
section MST
variable {bs : Nat} {sa : Nat → Nat}
set_option maxHeartbeats 1000000 in
set_option maxRecDepth 100000 in
theorem r_sm1 (d M : Nat) (fs : List Value) (h11 : fs[11]? = some (.ref (M + 10))) (h22 : fs[22]? = some (.ref (M + 16))) (ct u l : Int32) (key S B : Nat → Int32) (hb : bs ≤ M) (h : e_H) (hD : [M, M + 10, M + 16, M + 17].Nodup) (E : e_C ⊕ (Option Value × e_H) → Prop)
    (hK : ∀ (ki : Int32), ev_E tbs bs sa (d + 2) t_X5_stream E (64, [some (.ref M), some (.int ct), some (.int u), some (.int l), some (.int ki), none], [], wd [M, M + 10, M + 16, M + 17] [.inl (5, fs), .inr (.inl (8, key)), .inr (.inl (16, va_cpy key S 0 4 8)), .inr (.inl (16, B))] h)) :
    ∀ (c k : Nat), k + c = 8 → ∀ Z, Z = va_cpy key S 0 4 k → ∀ (ki : Int32), ki = nI k → ev_E tbs bs sa (d + 2) t_X5_stream E (39, [some (.ref M), some (.int ct), some (.int u), some (.int l), some (.int ki), none], [.int 8, .int ki], wd [M, M + 10, M + 16, M + 17] [.inl (5, fs), .inr (.inl (8, key)), .inr (.inl (16, Z)), .inr (.inl (16, B))] h) := by
  intro c
  induction c with
  | zero =>
    intro k hkc Z hZ ki hki
    have e : k = 8 := by omega
    subst e; subst hZ; subst hki
    refine EV.icm rfl (fun hc => ?_) (fun hc => ?_)
    · exact hK _
    · exact absurd (by decide : (8 : Int32) ≤ nI 8) (of_decide_eq_false hc)
  | succ c ih =>
    intro k hkc Z hZ ki hki
    subst hki; subst hZ
    refine EV.icm rfl (fun hc => ?_) (fun hc => ?_)
    · exact absurd (of_decide_eq_true hc) (nI_ge (b := 8) (by omega) (by decide))
    · repeat (first | refine EV.s rfl rfl rfl ?_ | refine EW.get 0 hD rfl rfl rfl h11 ?_ | refine EW.get 0 hD rfl rfl rfl h22 ?_)
      refine EW.iald 1 k hD rfl rfl rfl rfl (by omega) (by decide) ?_
      refine EW.iast 2 (4 + k) hD rfl rfl rfl (by omega) (nI_add 4 k) (by omega) (by decide) ?_
      repeat refine EV.s rfl rfl rfl ?_
      exact ih (k + 1) (by omega) _ ((cpy_s key S 4 k).symm) _ (nI_1 k)
set_option maxHeartbeats 1000000 in
set_option maxRecDepth 100000 in
theorem r_sm2 (d M : Nat) (fs : List Value) (h22 : fs[22]? = some (.ref (M + 16))) (h23 : fs[23]? = some (.ref (M + 17))) (ct u l : Int32) (key S B : Nat → Int32) (hb : bs ≤ M) (h : e_H) (hD : [M, M + 10, M + 16, M + 17].Nodup) (E : e_C ⊕ (Option Value × e_H) → Prop)
    (hK : ∀ (ki : Int32), ev_E tbs bs sa (d + 2) t_X5_stream E (126, [some (.ref M), some (.int ct), some (.int u), some (.int l), some (.int ki), none], [], wd [M, M + 10, M + 16, M + 17] [.inl (5, fs), .inr (.inl (8, key)), .inr (.inl (16, S)), .inr (.inl (16, va_cpy S B 0 0 16))] h)) :
    ∀ (c k : Nat), k + c = 16 → ∀ Z, Z = va_cpy S B 0 0 k → ∀ (ki : Int32), ki = nI k → ev_E tbs bs sa (d + 2) t_X5_stream E (103, [some (.ref M), some (.int ct), some (.int u), some (.int l), some (.int ki), none], [.int 16, .int ki], wd [M, M + 10, M + 16, M + 17] [.inl (5, fs), .inr (.inl (8, key)), .inr (.inl (16, S)), .inr (.inl (16, Z))] h) := by
  intro c
  induction c with
  | zero =>
    intro k hkc Z hZ ki hki
    have e : k = 16 := by omega
    subst e; subst hZ; subst hki
    refine EV.icm rfl (fun hc => ?_) (fun hc => ?_)
    · exact hK _
    · exact absurd (by decide : (16 : Int32) ≤ nI 16) (of_decide_eq_false hc)
  | succ c ih =>
    intro k hkc Z hZ ki hki
    subst hki; subst hZ
    refine EV.icm rfl (fun hc => ?_) (fun hc => ?_)
    · exact absurd (of_decide_eq_true hc) (nI_ge (b := 16) (by omega) (by decide))
    · repeat (first | refine EV.s rfl rfl rfl ?_ | refine EW.get 0 hD rfl rfl rfl h22 ?_ | refine EW.get 0 hD rfl rfl rfl h23 ?_)
      refine EW.iald 2 k hD rfl rfl rfl rfl (by omega) (by decide) ?_
      refine EW.iast 3 k hD rfl rfl rfl (by omega) rfl (by omega) (by decide) ?_
      repeat refine EV.s rfl rfl rfl ?_
      exact ih (k + 1) (by omega) _ (by rw [cpy_s, Nat.zero_add]) _ (nI_1 k)
set_option maxHeartbeats 1000000 in
set_option maxRecDepth 100000 in
theorem r_sm3 (d M : Nat) (fs : List Value) (h23 : fs[23]? = some (.ref (M + 17))) (ct u l ri : Int32) (key S B : Nat → Int32) (hb : bs ≤ M) (h : e_H) (hD : [M, M + 10, M + 16, M + 17].Nodup) (E : e_C ⊕ (Option Value × e_H) → Prop)
    (hK : ∀ (ki : Int32), ev_E tbs bs sa (d + 2) t_X5_stream E (171, [some (.ref M), some (.int ct), some (.int u), some (.int l), some (.int ri), some (.int ki)], [], wd [M, M + 10, M + 16, M + 17] [.inl (5, fs), .inr (.inl (8, key)), .inr (.inl (16, S)), .inr (.inl (16, qco B 4))] h)) :
    ∀ (c k : Nat), k + c = 4 → ∀ Z, Z = qco B k → ∀ (ki : Int32), ki = nI k → ev_E tbs bs sa (d + 2) t_X5_stream E (142, [some (.ref M), some (.int ct), some (.int u), some (.int l), some (.int ri), some (.int ki)], [.int 4, .int ki], wd [M, M + 10, M + 16, M + 17] [.inl (5, fs), .inr (.inl (8, key)), .inr (.inl (16, S)), .inr (.inl (16, Z))] h) := by
  intro c
  induction c with
  | zero =>
    intro k hkc Z hZ ki hki
    have e : k = 4 := by omega
    subst e; subst hZ; subst hki
    refine EV.icm rfl (fun hc => ?_) (fun hc => ?_)
    · exact hK _
    · exact absurd (by decide : (4 : Int32) ≤ nI 4) (of_decide_eq_false hc)
  | succ c ih =>
    intro k hkc Z hZ ki hki
    subst hki; subst hZ
    refine EV.icm rfl (fun hc => ?_) (fun hc => ?_)
    · exact absurd (of_decide_eq_true hc) (nI_ge (b := 4) (by omega) (by decide))
    · repeat refine EV.s rfl rfl rfl ?_
      refine EW.cv 0 [0, 3] hD rfl (fun h0 => r_quarter d M k (4 + k) (8 + k) (12 + k) fs h23 (qco B k) h0 (nd_sub hD [0, 3] (by decide) rfl) hb (by omega) (by omega) (by omega) (by omega)) rfl rfl rfl rfl (Nat.le_of_ble_eq_true rfl) (Nat.le_of_ble_eq_true rfl) (by rw [← nI_add 4 k, ← nI_add 8 k, ← nI_add 12 k]; rfl) rfl rfl rfl ?_
      try simp only [setm, List.set_cons_succ, List.set_cons_zero, Option.toList, List.nil_append, List.cons_append]
      repeat refine EV.s rfl rfl rfl ?_
      exact ih (k + 1) (by omega) _ (rfl) _ (nI_1 k)
set_option maxHeartbeats 1000000 in
set_option maxRecDepth 100000 in
theorem r_sm4 (d M : Nat) (fs : List Value) (h23 : fs[23]? = some (.ref (M + 17))) (ct u l ri : Int32) (key S B : Nat → Int32) (hb : bs ≤ M) (h : e_H) (hD : [M, M + 10, M + 16, M + 17].Nodup) (E : e_C ⊕ (Option Value × e_H) → Prop)
    (hK : ∀ (ki : Int32), ev_E tbs bs sa (d + 2) t_X5_stream E (218, [some (.ref M), some (.int ct), some (.int u), some (.int l), some (.int ri), some (.int ki)], [], wd [M, M + 10, M + 16, M + 17] [.inl (5, fs), .inr (.inl (8, key)), .inr (.inl (16, S)), .inr (.inl (16, qdi B 4))] h)) :
    ∀ (c k : Nat), k + c = 4 → ∀ Z, Z = qdi B k → ∀ (ki : Int32), ki = nI k → ev_E tbs bs sa (d + 2) t_X5_stream E (177, [some (.ref M), some (.int ct), some (.int u), some (.int l), some (.int ri), some (.int ki)], [.int 4, .int ki], wd [M, M + 10, M + 16, M + 17] [.inl (5, fs), .inr (.inl (8, key)), .inr (.inl (16, S)), .inr (.inl (16, Z))] h) := by
  intro c
  induction c with
  | zero =>
    intro k hkc Z hZ ki hki
    have e : k = 4 := by omega
    subst e; subst hZ; subst hki
    refine EV.icm rfl (fun hc => ?_) (fun hc => ?_)
    · exact hK _
    · exact absurd (by decide : (4 : Int32) ≤ nI 4) (of_decide_eq_false hc)
  | succ c ih =>
    intro k hkc Z hZ ki hki
    subst hki; subst hZ
    refine EV.icm rfl (fun hc => ?_) (fun hc => ?_)
    · exact absurd (of_decide_eq_true hc) (nI_ge (b := 4) (by omega) (by decide))
    · have em : ∀ (a q : Nat), a < 100 → q < 100 → nI q + (nI k + nI a - (nI k + nI a) / 4 * 4) = nI (q + (k + a) % 4) := by
        intro a q ha hq
        rw [nI_add k a, show (4 : Int32) = nI 4 from rfl, pk_rem (d := 4) (by omega) (by omega) (by omega), nI_add]
      repeat refine EV.s rfl rfl rfl ?_
      refine EW.cv 0 [0, 3] hD rfl (fun h0 => r_quarter d M k (4 + (k + 1) % 4) (8 + (k + 2) % 4) (12 + (k + 3) % 4) fs h23 (qdi B k) h0 (nd_sub hD [0, 3] (by decide) rfl) hb (by omega) (by omega) (by omega) (by omega)) rfl rfl rfl rfl (Nat.le_of_ble_eq_true rfl) (Nat.le_of_ble_eq_true rfl) (by rw [← em 1 4 (by decide) (by decide), ← em 2 8 (by decide) (by decide), ← em 3 12 (by decide) (by decide)]; rfl) rfl rfl rfl ?_
      try simp only [setm, List.set_cons_succ, List.set_cons_zero, Option.toList, List.nil_append, List.cons_append]
      repeat refine EV.s rfl rfl rfl ?_
      exact ih (k + 1) (by omega) _ (rfl) _ (nI_1 k)
set_option maxHeartbeats 1000000 in
set_option maxRecDepth 100000 in
theorem r_sm5 (d M : Nat) (fs : List Value) (h23 : fs[23]? = some (.ref (M + 17))) (ct u l : Int32) (key S B : Nat → Int32) (hb : bs ≤ M) (h : e_H) (hD : [M, M + 10, M + 16, M + 17].Nodup) (E : e_C ⊕ (Option Value × e_H) → Prop)
    (hK : ∀ (ki : Int32) (l5 : Option Value), ev_E tbs bs sa (d + 2) t_X5_stream E (224, [some (.ref M), some (.int ct), some (.int u), some (.int l), some (.int ki), l5], [], wd [M, M + 10, M + 16, M + 17] [.inl (5, fs), .inr (.inl (8, key)), .inr (.inl (16, S)), .inr (.inl (16, drs B 10))] h)) :
    ∀ (c k : Nat), k + c = 10 → ∀ Z, Z = drs B k → ∀ (ki : Int32), ki = nI k → ∀ (l5 : Option Value), ev_E tbs bs sa (d + 2) t_X5_stream E (133, [some (.ref M), some (.int ct), some (.int u), some (.int l), some (.int ki), l5], [.int 10, .int ki], wd [M, M + 10, M + 16, M + 17] [.inl (5, fs), .inr (.inl (8, key)), .inr (.inl (16, S)), .inr (.inl (16, Z))] h) := by
  intro c
  induction c with
  | zero =>
    intro k hkc Z hZ ki hki l5
    have e : k = 10 := by omega
    subst e; subst hZ; subst hki
    refine EV.icm rfl (fun hc => ?_) (fun hc => ?_)
    · exact hK _ _
    · exact absurd (by decide : (10 : Int32) ≤ nI 10) (of_decide_eq_false hc)
  | succ c ih =>
    intro k hkc Z hZ ki hki l5
    subst hki; subst hZ
    refine EV.icm rfl (fun hc => ?_) (fun hc => ?_)
    · exact absurd (of_decide_eq_true hc) (nI_ge (b := 10) (by omega) (by decide))
    · repeat refine EV.s rfl rfl rfl ?_
      refine r_sm3 d M fs h23 ct u l (nI k) key S (drs B k) hb h hD _ (fun ki => ?_) 4 0 rfl _ rfl _ rfl
      repeat refine EV.s rfl rfl rfl ?_
      refine r_sm4 d M fs h23 ct u l (nI k) key S (qco (drs B k) 4) hb h hD _ (fun ki => ?_) 4 0 rfl _ rfl _ rfl
      repeat refine EV.s rfl rfl rfl ?_
      exact ih (k + 1) (by omega) _ (qdi_dr (drs B k)) _ (nI_1 k) _
set_option maxHeartbeats 1000000 in
set_option maxRecDepth 100000 in
theorem r_sm6 (d M : Nat) (fs : List Value) (h22 : fs[22]? = some (.ref (M + 16))) (h23 : fs[23]? = some (.ref (M + 17))) (ct u l : Int32) (l5 : Option Value) (key S B : Nat → Int32) (hb : bs ≤ M) (h : e_H) (hD : [M, M + 10, M + 16, M + 17].Nodup) (E : e_C ⊕ (Option Value × e_H) → Prop)
    (hK : E (.inr (none, wd [M, M + 10, M + 16, M + 17] [.inl (5, fs), .inr (.inl (8, key)), .inr (.inl (16, S)), .inr (.inl (16, adk B S 16))] h))) :
    ∀ (c k : Nat), k + c = 16 → ∀ Z, Z = adk B S k → ∀ (ki : Int32), ki = nI k → ev_E tbs bs sa (d + 2) t_X5_stream E (231, [some (.ref M), some (.int ct), some (.int u), some (.int l), some (.int ki), l5], [.int 16, .int ki], wd [M, M + 10, M + 16, M + 17] [.inl (5, fs), .inr (.inl (8, key)), .inr (.inl (16, S)), .inr (.inl (16, Z))] h) := by
  intro c
  induction c with
  | zero =>
    intro k hkc Z hZ ki hki
    have e : k = 16 := by omega
    subst e; subst hZ; subst hki
    refine EV.icm rfl (fun hc => ?_) (fun hc => ?_)
    · refine EV.ret rfl ?_
      exact hK
    · exact absurd (by decide : (16 : Int32) ≤ nI 16) (of_decide_eq_false hc)
  | succ c ih =>
    intro k hkc Z hZ ki hki
    subst hki; subst hZ
    refine EV.icm rfl (fun hc => ?_) (fun hc => ?_)
    · exact absurd (of_decide_eq_true hc) (nI_ge (b := 16) (by omega) (by decide))
    · repeat (first | refine EV.s rfl rfl rfl ?_ | refine EW.get 0 hD rfl rfl rfl h22 ?_ | refine EW.get 0 hD rfl rfl rfl h23 ?_)
      refine EW.iald 3 k hD rfl rfl rfl rfl (by omega) (by decide) ?_
      repeat (first | refine EV.s rfl rfl rfl ?_ | refine EW.get 0 hD rfl rfl rfl h22 ?_ | refine EW.get 0 hD rfl rfl rfl h23 ?_)
      refine EW.iald 2 k hD rfl rfl rfl rfl (by omega) (by decide) ?_
      repeat refine EV.s rfl rfl rfl ?_
      refine EW.iast 3 k hD rfl rfl rfl (by omega) rfl (by omega) (by decide) ?_
      repeat refine EV.s rfl rfl rfl ?_
      exact ih (k + 1) (by omega) _ ((adk_s B S k).symm) _ (nI_1 k)
set_option maxHeartbeats 1000000 in
set_option maxRecDepth 100000 in
theorem r_stream (d M : Nat) (fs : List Value) (h11 : fs[11]? = some (.ref (M + 10))) (h22 : fs[22]? = some (.ref (M + 16))) (h23 : fs[23]? = some (.ref (M + 17))) (ct u l : Int32) (key S B : Nat → Int32) (hD : [M, M + 10, M + 16, M + 17].Nodup) (hb : bs ≤ M) :
    CT bs sa (d + 3) 76 [.ref M, .int ct, .int u, .int l] [M, M + 10, M + 16, M + 17] [.inl (5, fs), .inr (.inl (8, key)), .inr (.inl (16, S)), .inr (.inl (16, B))]
      (fun rv o => rv = none ∧ ∃ S' B', o = [.inl (5, fs), .inr (.inl (8, key)), .inr (.inl (16, S')), .inr (.inl (16, B'))] ∧ al B' (cha cc4 key ct u l)) := by
  refine CT.mk (T := t_X5_stream) rfl (Nat.le_of_ble_eq_true rfl) (fun h => ?_)
  repeat (first | refine EV.s rfl rfl rfl ?_ | refine EW.get 0 hD rfl rfl rfl h22 ?_)
  refine EW.iast 2 0 hD rfl rfl rfl (by omega) rfl (by decide) (by decide) ?_
  repeat (first | refine EV.s rfl rfl rfl ?_ | refine EW.get 0 hD rfl rfl rfl h22 ?_)
  refine EW.iast 2 1 hD rfl rfl rfl (by omega) rfl (by decide) (by decide) ?_
  repeat (first | refine EV.s rfl rfl rfl ?_ | refine EW.get 0 hD rfl rfl rfl h22 ?_)
  refine EW.iast 2 2 hD rfl rfl rfl (by omega) rfl (by decide) (by decide) ?_
  repeat (first | refine EV.s rfl rfl rfl ?_ | refine EW.get 0 hD rfl rfl rfl h22 ?_)
  refine EW.iast 2 3 hD rfl rfl rfl (by omega) rfl (by decide) (by decide) ?_
  repeat refine EV.s rfl rfl rfl ?_
  refine r_sm1 d M fs h11 h22 ct u l key (upd (upd (upd (upd S 0 1634760805) 1 857760878) 2 2036477234) 3 1797285236) B hb h hD _ (fun ki => ?_) 8 0 rfl _ (cpy_0 _ _ _).symm _ rfl
  repeat (first | refine EV.s rfl rfl rfl ?_ | refine EW.get 0 hD rfl rfl rfl h22 ?_)
  refine EW.iast 2 12 hD rfl rfl rfl (by omega) rfl (by decide) (by decide) ?_
  repeat (first | refine EV.s rfl rfl rfl ?_ | refine EW.get 0 hD rfl rfl rfl h22 ?_)
  refine EW.iast 2 13 hD rfl rfl rfl (by omega) rfl (by decide) (by decide) ?_
  repeat (first | refine EV.s rfl rfl rfl ?_ | refine EW.get 0 hD rfl rfl rfl h22 ?_)
  refine EW.iast 2 14 hD rfl rfl rfl (by omega) rfl (by decide) (by decide) ?_
  repeat (first | refine EV.s rfl rfl rfl ?_ | refine EW.get 0 hD rfl rfl rfl h22 ?_)
  refine EW.iast 2 15 hD rfl rfl rfl (by omega) rfl (by decide) (by decide) ?_
  repeat refine EV.s rfl rfl rfl ?_
  refine r_sm2 d M fs h22 h23 ct u l key (mst key S ct u l) B hb h hD _ (fun ki => ?_) 16 0 rfl B (cpy_0 _ _ _).symm _ rfl
  repeat refine EV.s rfl rfl rfl ?_
  refine r_sm5 d M fs h23 ct u l key (mst key S ct u l) (va_cpy (mst key S ct u l) B 0 0 16) hb h hD _ (fun ki l5 => ?_) 10 0 rfl _ rfl _ rfl none
  repeat refine EV.s rfl rfl rfl ?_
  refine r_sm6 d M fs h22 h23 ct u l l5 key (mst key S ct u l) (drs (va_cpy (mst key S ct u l) B 0 0 16) 10) hb h hD _ ?_ 16 0 rfl _ (adk_0 _ _).symm _ rfl
  refine ⟨_, _, rfl, _, ⟨⟨rfl, _, _, rfl, fun k hk => ?_⟩, rfl⟩, rfl⟩
  have h1 : al (va_cpy (mst key S ct u l) B 0 0 16) (cst cc4 key ct u l) := fun j hj => by rw [cpy_lo hj, Nat.zero_add]; exact mst_al key S ct u l j hj
  simp only [adk, cha]
  rw [if_pos hk, drs_al h1 10 k hk, mst_al key S ct u l k hk]
end MST
end
section
/-- is page p of this TYPE -/
def iso (P : Nat) (tp : Nat → Int32) (p t : Int32) : Int32 := if 0 ≤ p ∧ p < nI P ∧ tp p.toNatClampNeg = t then 1 else 0
def cnt (f : Nat → Int32) (e : Int32) : Nat → Int32
  | 0 => 0
  | k + 1 => cnt f e k + (if f k = e then 1 else 0)
/-- the first from k on, among n -/
def fsr (f : Nat → Bool) : Nat → Nat → Option Nat
  | 0, _ => none
  | n + 1, k => cond (f k) (some k) (fsr f n (k + 1))
def fat (P : Nat) (tp ow ad : Nat → Int32) (e a : Int32) : Option Nat := fsr (fun k => decide (tp k = 3 ∧ ow k = e ∧ ad k = a)) P 0
def fatI (o : Option Nat) : Int32 := match o with
  | some k => nI k
  | none => -1
section MHL
variable {bs : Nat} {sa : Nat → Nat}
theorem r_misOf (d M P : Nat) (hP : P ≤ 40) (fs : List Value) (h1 : fs[1]? = some (.int (nI P))) (h2 : fs[2]? = some (.ref (M + 1))) (p t : Int32) (tp : Nat → Int32) (h : e_H) (hD : [M, M + 1].Nodup) :
    ev_run tbs bs sa (d + 1) 78 [.ref M, .int p, .int t] (wd [M, M + 1] [.inl (5, fs), .inr (.inl (40, tp))] h) (some (.int (iso P tp p t))) (wd [M, M + 1] [.inl (5, fs), .inr (.inl (40, tp))] h) := by
  refine RUN.mk (T := t_X5_isOf) rfl (Nat.le_of_ble_eq_true rfl) ?_
  repeat refine EV.s rfl rfl rfl ?_
  refine EV.ifc rfl (fun hc => ?_) (fun hc => ?_)
  · have hc : p < 0 := of_decide_eq_true hc
    repeat refine EV.s rfl rfl rfl ?_
    refine EV.ret rfl ?_
    rw [iso, if_neg (fun q => Int32.not_le.mpr hc q.1)]
  · have hc : ¬ p < 0 := of_decide_eq_false hc
    repeat (first | refine EV.s rfl rfl rfl ?_ | refine EW.get 0 hD rfl rfl rfl h1 ?_)
    refine EV.icm rfl (fun hb => ?_) (fun hb => ?_)
    · have hb : nI P ≤ p := of_decide_eq_true hb
      repeat refine EV.s rfl rfl rfl ?_
      refine EV.ret rfl ?_
      rw [iso, if_neg (fun q => Int32.not_lt.mpr hb q.2.1)]
    · have hb : ¬ nI P ≤ p := of_decide_eq_false hb
      obtain ⟨j, hj, rfl⟩ := in_nI (by omega) ⟨Int32.not_lt.mp hc, Int32.not_le.mp hb⟩
      repeat (first | refine EV.s rfl rfl rfl ?_ | refine EW.get 0 hD rfl rfl rfl h2 ?_)
      refine EW.iald 1 j hD rfl rfl rfl rfl (by omega) (by decide) ?_
      repeat refine EV.s rfl rfl rfl ?_
      refine EV.icm rfl (fun ht => ?_) (fun ht => ?_)
      · have ht : tp j ≠ t := of_decide_eq_true ht
        repeat refine EV.s rfl rfl rfl ?_
        refine EV.ret rfl ?_
        rw [iso, nI_clamp (by omega), if_neg (fun q => ht q.2.2)]
      · have ht : tp j = t := Decidable.of_not_not (of_decide_eq_false ht)
        repeat refine EV.s rfl rfl rfl ?_
        refine EV.ret rfl ?_
        rw [iso, nI_clamp (by omega), if_pos ⟨Int32.not_lt.mp hc, Int32.not_le.mp hb, ht⟩]
theorem r_mowned_loop (d M P : Nat) (hP : P ≤ 40) (fs : List Value) (h1 : fs[1]? = some (.int (nI P))) (h3 : fs[3]? = some (.ref (M + 2))) (e : Int32) (ow : Nat → Int32) (h : e_H) (hD : [M, M + 2].Nodup) (E : e_C ⊕ (Option Value × e_H) → Prop)
    (hK : E (.inr (some (.int (cnt ow e P)), wd [M, M + 2] [.inl (5, fs), .inr (.inl (40, ow))] h))) :
    ∀ (c k : Nat), k + c = P → ∀ n, n = cnt ow e k → ∀ ki, ki = nI k → ev_E tbs bs sa d t_X5_owned E (9, [some (.ref M), some (.int e), some (.int n), some (.int ki)], [.int (nI P), .int ki], wd [M, M + 2] [.inl (5, fs), .inr (.inl (40, ow))] h) := by
  intro c
  induction c with
  | zero =>
    intro k hk n hn ki hki
    have e : k = P := by omega
    subst e; subst hn; subst hki
    refine EV.icm rfl (fun hc => ?_) (fun hc => ?_)
    · repeat refine EV.s rfl rfl rfl ?_
      refine EV.ri rfl rfl ?_
      exact hK
    · exact absurd (nI_le (Nat.le_refl _) (by omega)) (of_decide_eq_false hc)
  | succ c ih =>
    intro k hk n hn ki hki
    subst hki; subst hn
    refine EV.icm rfl (fun hc => ?_) (fun hc => ?_)
    · exact absurd (of_decide_eq_true hc) (nI_ge (by omega) (by omega))
    · repeat (first | refine EV.s rfl rfl rfl ?_ | refine EW.get 0 hD rfl rfl rfl h3 ?_)
      refine EW.iald 1 k hD rfl rfl rfl rfl (by omega) (by decide) ?_
      repeat refine EV.s rfl rfl rfl ?_
      refine EV.icm rfl (fun ht => ?_) (fun ht => ?_)
      · have ht : ow k ≠ e := of_decide_eq_true ht
        repeat (first | refine EV.s rfl rfl rfl ?_ | refine EW.get 0 hD rfl rfl rfl h1 ?_)
        exact ih (k + 1) (by omega) _ (by simp only [cnt]; rw [if_neg ht]) _ (nI_1 k)
      · have ht : ow k = e := Decidable.of_not_not (of_decide_eq_false ht)
        repeat (first | refine EV.s rfl rfl rfl ?_ | refine EW.get 0 hD rfl rfl rfl h1 ?_)
        exact ih (k + 1) (by omega) _ (by simp only [cnt]; rw [if_pos ht]) _ (nI_1 k)
theorem r_mowned (d M P : Nat) (hP : P ≤ 40) (fs : List Value) (h1 : fs[1]? = some (.int (nI P))) (h3 : fs[3]? = some (.ref (M + 2))) (e : Int32) (ow : Nat → Int32) (h : e_H) (hD : [M, M + 2].Nodup) :
    ev_run tbs bs sa (d + 1) 79 [.ref M, .int e] (wd [M, M + 2] [.inl (5, fs), .inr (.inl (40, ow))] h) (some (.int (cnt ow e P))) (wd [M, M + 2] [.inl (5, fs), .inr (.inl (40, ow))] h) := by
  refine RUN.mk (T := t_X5_owned) rfl (Nat.le_of_ble_eq_true rfl) ?_
  repeat (first | refine EV.s rfl rfl rfl ?_ | refine EW.get 0 hD rfl rfl rfl h1 ?_)
  refine r_mowned_loop d M P hP fs h1 h3 e ow h hD _ ?_ P 0 (by omega) _ rfl _ rfl
  rfl
theorem r_mat_loop (d M P : Nat) (hP : P ≤ 40) (fs : List Value) (h1 : fs[1]? = some (.int (nI P))) (h2 : fs[2]? = some (.ref (M + 1))) (h3 : fs[3]? = some (.ref (M + 2))) (h4 : fs[4]? = some (.ref (M + 3))) (e a : Int32) (tp ow ad : Nat → Int32) (h : e_H) (hD : [M, M + 1, M + 2, M + 3].Nodup) (E : e_C ⊕ (Option Value × e_H) → Prop) (r : Option Nat)
    (hK : E (.inr (some (.int (fatI r)), wd [M, M + 1, M + 2, M + 3] [.inl (5, fs), .inr (.inl (40, tp)), .inr (.inl (40, ow)), .inr (.inl (40, ad))] h))) :
    ∀ (c k : Nat), k + c = P → fsr (fun k => decide (tp k = 3 ∧ ow k = e ∧ ad k = a)) c k = r → ∀ ki, ki = nI k → ev_E tbs bs sa d t_X5_at E (7, [some (.ref M), some (.int e), some (.int a), some (.int ki)], [.int (nI P), .int ki], wd [M, M + 1, M + 2, M + 3] [.inl (5, fs), .inr (.inl (40, tp)), .inr (.inl (40, ow)), .inr (.inl (40, ad))] h) := by
  intro c
  induction c with
  | zero =>
    intro k hk hr ki hki
    have e : k = P := by omega
    subst e; subst hki
    have hr : r = none := hr.symm
    subst hr
    refine EV.icm rfl (fun hc => ?_) (fun hc => ?_)
    · repeat refine EV.s rfl rfl rfl ?_
      refine EV.ri rfl rfl ?_
      exact hK
    · exact absurd (nI_le (Nat.le_refl _) (by omega)) (of_decide_eq_false hc)
  | succ c ih =>
    intro k hk hr ki hki
    subst hki
    simp only [fsr] at hr
    have go : ¬ (tp k = 3 ∧ ow k = e ∧ ad k = a) → ev_E tbs bs sa d t_X5_at E (42, [some (.ref M), some (.int e), some (.int a), some (.int (nI k))], [], wd [M, M + 1, M + 2, M + 3] [.inl (5, fs), .inr (.inl (40, tp)), .inr (.inl (40, ow)), .inr (.inl (40, ad))] h) := by
      intro hne
      rw [decide_eq_false hne] at hr
      repeat (first | refine EV.s rfl rfl rfl ?_ | refine EW.get 0 hD rfl rfl rfl h1 ?_)
      exact ih (k + 1) (by omega) hr _ (nI_1 k)
    refine EV.icm rfl (fun hc => ?_) (fun hc => ?_)
    · exact absurd (of_decide_eq_true hc) (nI_ge (by omega) (by omega))
    · repeat (first | refine EV.s rfl rfl rfl ?_ | refine EW.get 0 hD rfl rfl rfl h2 ?_)
      refine EW.iald 1 k hD rfl rfl rfl rfl (by omega) (by decide) ?_
      repeat refine EV.s rfl rfl rfl ?_
      refine EV.icm rfl (fun ht => ?_) (fun ht => ?_)
      · have ht : tp k ≠ 3 := of_decide_eq_true ht
        exact go (fun q => ht q.1)
      · have ht : tp k = 3 := Decidable.of_not_not (of_decide_eq_false ht)
        repeat (first | refine EV.s rfl rfl rfl ?_ | refine EW.get 0 hD rfl rfl rfl h3 ?_)
        refine EW.iald 2 k hD rfl rfl rfl rfl (by omega) (by decide) ?_
        repeat refine EV.s rfl rfl rfl ?_
        refine EV.icm rfl (fun ho => ?_) (fun ho => ?_)
        · have ho : ow k ≠ e := of_decide_eq_true ho
          exact go (fun q => ho q.2.1)
        · have ho : ow k = e := Decidable.of_not_not (of_decide_eq_false ho)
          repeat (first | refine EV.s rfl rfl rfl ?_ | refine EW.get 0 hD rfl rfl rfl h4 ?_)
          refine EW.iald 3 k hD rfl rfl rfl rfl (by omega) (by decide) ?_
          repeat refine EV.s rfl rfl rfl ?_
          refine EV.icm rfl (fun ha => ?_) (fun ha => ?_)
          · have ha : ad k ≠ a := of_decide_eq_true ha
            exact go (fun q => ha q.2.2)
          · have ha : ad k = a := Decidable.of_not_not (of_decide_eq_false ha)
            rw [decide_eq_true ⟨ht, ho, ha⟩] at hr
            have hr : r = some k := hr.symm
            subst hr
            repeat refine EV.s rfl rfl rfl ?_
            refine EV.ri rfl rfl ?_
            exact hK
theorem r_mat (d M P : Nat) (hP : P ≤ 40) (fs : List Value) (h1 : fs[1]? = some (.int (nI P))) (h2 : fs[2]? = some (.ref (M + 1))) (h3 : fs[3]? = some (.ref (M + 2))) (h4 : fs[4]? = some (.ref (M + 3))) (e a : Int32) (tp ow ad : Nat → Int32) (h : e_H) (hD : [M, M + 1, M + 2, M + 3].Nodup) :
    ev_run tbs bs sa (d + 1) 86 [.ref M, .int e, .int a] (wd [M, M + 1, M + 2, M + 3] [.inl (5, fs), .inr (.inl (40, tp)), .inr (.inl (40, ow)), .inr (.inl (40, ad))] h) (some (.int (fatI (fat P tp ow ad e a)))) (wd [M, M + 1, M + 2, M + 3] [.inl (5, fs), .inr (.inl (40, tp)), .inr (.inl (40, ow)), .inr (.inl (40, ad))] h) := by
  refine RUN.mk (T := t_X5_at) rfl (Nat.le_of_ble_eq_true rfl) ?_
  repeat (first | refine EV.s rfl rfl rfl ?_ | refine EW.get 0 hD rfl rfl rfl h1 ?_)
  refine r_mat_loop d M P hP fs h1 h2 h3 h4 e a tp ow ad h hD _ (fat P tp ow ad e a) ?_ P 0 (by omega) rfl _ rfl
  rfl
theorem r_inSlot (d M v s : Nat) (fs : List Value) (h8 : fs[8]? = some (.ref (M + 7))) (hv : v < 40) (hs : s < 16) (W : Nat → Int32) (h : e_H) (hD : [M, M + 7].Nodup) :
    ev_run tbs bs sa (d + 1) 98 [.ref M, .int (nI v), .int (nI s)] (wd [M, M + 7] [.inl (5, fs), .inr (.inl (1280, W))] h) (some (.long (jn (W (32 * v + 2 * s)) (W (32 * v + 2 * s + 1))))) (wd [M, M + 7] [.inl (5, fs), .inr (.inl (1280, W))] h) := by
  have e1 : (32 : Int32) * nI v + 2 * nI s = nI (32 * v + 2 * s) := by
    have a1 : (32 : Int32) * nI v = nI (32 * v) := pk_mul 32 v
    have a2 : (2 : Int32) * nI s = nI (2 * s) := pk_mul 2 s
    rw [a1, a2, nI_add]
  refine RUN.mk (T := t_X5_inSlot) rfl (Nat.le_of_ble_eq_true rfl) ?_
  repeat (first | refine EV.s rfl rfl rfl ?_ | refine EW.get 0 hD rfl rfl rfl h8 ?_)
  refine EW.iald 1 (32 * v + 2 * s) hD rfl rfl rfl e1 (by omega) (by decide) ?_
  repeat (first | refine EV.s rfl rfl rfl ?_ | refine EW.get 0 hD rfl rfl rfl h8 ?_)
  refine EW.iald 1 (32 * v + 2 * s + 1) hD rfl rfl rfl (by rw [← nI_1, ← e1]) (by omega) (by decide) ?_
  repeat refine EV.s rfl rfl rfl ?_
  refine EV.rl rfl rfl ?_
  rfl
def ua64 (x : Int64) : Int32 := (x >>> ((32 : Int32).toInt64 &&& 63)).toInt32
theorem r_setSlot (d M v s : Nat) (x : Int64) (fs : List Value) (h8 : fs[8]? = some (.ref (M + 7))) (hv : v < 40) (hs : s < 16) (W : Nat → Int32) (h : e_H) (hD : [M, M + 7].Nodup) (hb : bs ≤ M) :
    ev_run tbs bs sa (d + 1) 99 [.ref M, .int (nI v), .int (nI s), .long x] (wd [M, M + 7] [.inl (5, fs), .inr (.inl (1280, W))] h) none (wd [M, M + 7] [.inl (5, fs), .inr (.inl (1280, upd (upd W (32 * v + 2 * s) (ua64 x)) (32 * v + 2 * s + 1) x.toInt32))] h) := by
  have e1 : (32 : Int32) * nI v + 2 * nI s = nI (32 * v + 2 * s) := by
    have a1 : (32 : Int32) * nI v = nI (32 * v) := pk_mul 32 v
    have a2 : (2 : Int32) * nI s = nI (2 * s) := pk_mul 2 s
    rw [a1, a2, nI_add]
  refine RUN.mk (T := t_X5_setSlot) rfl (Nat.le_of_ble_eq_true rfl) ?_
  repeat (first | refine EV.s rfl rfl rfl ?_ | refine EW.get 0 hD rfl rfl rfl h8 ?_)
  refine EW.iast 1 (32 * v + 2 * s) hD rfl rfl rfl (by omega) e1 (by omega) (by decide) ?_
  repeat (first | refine EV.s rfl rfl rfl ?_ | refine EW.get 0 hD rfl rfl rfl h8 ?_)
  refine EW.iast 1 (32 * v + 2 * s + 1) hD rfl rfl rfl (by omega) (by rw [← nI_1, ← e1]) (by omega) (by decide) ?_
  refine EV.ret rfl ?_
  rfl
end MHL
end
section
theorem cpyS (W F : Nat → Int32) (sp L k : Nat) : va_cpy W F sp L (k + 1) = upd (va_cpy W F sp L k) (L + k) (W (sp + k)) := by
  funext j
  simp only [va_cpy, upd]
  by_cases e : j = L + k
  · rw [if_pos e, if_pos (by omega)]; congr 1; omega
  · rw [if_neg e]
    by_cases q : L ≤ j ∧ j < L + k
    · rw [if_pos q, if_pos (by omega)]
    · rw [if_neg q, if_neg (by omega)]
theorem cpy0 (W F : Nat → Int32) (sp L : Nat) : va_cpy W F sp L 0 = F := by
  funext j; simp only [va_cpy]; rw [if_neg (by omega)]
/-- a page's measuring -/
def mea (K I m : Nat → Int32) (t a r : Int32) (w : Nat → Int32) : Nat → Int32 := sha K I (fun j => if j < 8 then m j else if j = 8 then t else if j = 9 then a else if j = 10 then r else if j = 11 then 0 else w (j - 12)) 44
section MME
variable {bs : Nat} {sa : Nat → Nat}
set_option maxHeartbeats 1000000 in
set_option maxRecDepth 100000 in
theorem r_bec1 (d M p : Nat) (t : Int32) (fs : List Value) (h8 : fs[8]? = some (.ref (M + 7))) (hp : p < 40) (tp ow ad rt id se W Me : Nat → Int32) (hb : bs ≤ M) (h : e_H) (hD : [M, M + 1, M + 2, M + 3, M + 4, M + 5, M + 6, M + 7, M + 8].Nodup) (E : e_C ⊕ (Option Value × e_H) → Prop)
    (hK : ∀ (ki : Int32), ev_E tbs bs sa (d) t_X5_becomes E (68, [some (.ref M), some (.int (nI p)), some (.int t), some (.int ki)], [], wd [M, M + 1, M + 2, M + 3, M + 4, M + 5, M + 6, M + 7, M + 8] [.inl (5, fs), .inr (.inl (40, tp)), .inr (.inl (40, ow)), .inr (.inl (40, ad)), .inr (.inl (40, rt)), .inr (.inl (40, id)), .inr (.inl (40, se)), .inr (.inl (1280, zf W (32 * p) (32 * p + 32))), .inr (.inl (320, Me))] h)) :
    ∀ (c k : Nat), k + c = 32 → ∀ Z, Z = zf W (32 * p) (32 * p + k) → ∀ (ki : Int32), ki = nI k → ev_E tbs bs sa (d) t_X5_becomes E (47, [some (.ref M), some (.int (nI p)), some (.int t), some (.int ki)], [.int 32, .int ki], wd [M, M + 1, M + 2, M + 3, M + 4, M + 5, M + 6, M + 7, M + 8] [.inl (5, fs), .inr (.inl (40, tp)), .inr (.inl (40, ow)), .inr (.inl (40, ad)), .inr (.inl (40, rt)), .inr (.inl (40, id)), .inr (.inl (40, se)), .inr (.inl (1280, Z)), .inr (.inl (320, Me))] h) := by
  intro c
  induction c with
  | zero =>
    intro k hkc Z hZ ki hki
    have e : k = 32 := by omega
    subst e; subst hZ; subst hki
    refine EV.icm rfl (fun hc => ?_) (fun hc => ?_)
    · exact hK _
    · exact absurd (by decide : (32 : Int32) ≤ nI 32) (of_decide_eq_false hc)
  | succ c ih =>
    intro k hkc Z hZ ki hki
    subst hki; subst hZ
    refine EV.icm rfl (fun hc => ?_) (fun hc => ?_)
    · exact absurd (of_decide_eq_true hc) (nI_ge (b := 32) (by omega) (by decide))
    · have e1 : (32 : Int32) * nI p + nI k = nI (32 * p + k) := by
        have a1 : (32 : Int32) * nI p = nI (32 * p) := pk_mul 32 p
        rw [a1, nI_add]
      repeat (first | refine EV.s rfl rfl rfl ?_ | refine EW.get 0 hD rfl rfl rfl h8 ?_)
      refine EW.iast 7 (32 * p + k) hD rfl rfl rfl (by omega) e1 (by omega) (by decide) ?_
      repeat refine EV.s rfl rfl rfl ?_
      exact ih (k + 1) (by omega) _ ((zf_s W (Nat.le_add_right _ k)).symm) _ (nI_1 k)
set_option maxHeartbeats 1000000 in
set_option maxRecDepth 100000 in
theorem r_bec2 (d M p : Nat) (t : Int32) (fs : List Value) (h9 : fs[9]? = some (.ref (M + 8))) (hp : p < 40) (tp ow ad rt id se W Me : Nat → Int32) (hb : bs ≤ M) (h : e_H) (hD : [M, M + 1, M + 2, M + 3, M + 4, M + 5, M + 6, M + 7, M + 8].Nodup) (E : e_C ⊕ (Option Value × e_H) → Prop)
    (hK : E (.inr (none, wd [M, M + 1, M + 2, M + 3, M + 4, M + 5, M + 6, M + 7, M + 8] [.inl (5, fs), .inr (.inl (40, tp)), .inr (.inl (40, ow)), .inr (.inl (40, ad)), .inr (.inl (40, rt)), .inr (.inl (40, id)), .inr (.inl (40, se)), .inr (.inl (1280, W)), .inr (.inl (320, zf Me (8 * p) (8 * p + 8)))] h))) :
    ∀ (c k : Nat), k + c = 8 → ∀ Z, Z = zf Me (8 * p) (8 * p + k) → ∀ (ki : Int32), ki = nI k → ev_E tbs bs sa (d) t_X5_becomes E (73, [some (.ref M), some (.int (nI p)), some (.int t), some (.int ki)], [.int 8, .int ki], wd [M, M + 1, M + 2, M + 3, M + 4, M + 5, M + 6, M + 7, M + 8] [.inl (5, fs), .inr (.inl (40, tp)), .inr (.inl (40, ow)), .inr (.inl (40, ad)), .inr (.inl (40, rt)), .inr (.inl (40, id)), .inr (.inl (40, se)), .inr (.inl (1280, W)), .inr (.inl (320, Z))] h) := by
  intro c
  induction c with
  | zero =>
    intro k hkc Z hZ ki hki
    have e : k = 8 := by omega
    subst e; subst hZ; subst hki
    refine EV.icm rfl (fun hc => ?_) (fun hc => ?_)
    · refine EV.ret rfl ?_
      exact hK
    · exact absurd (by decide : (8 : Int32) ≤ nI 8) (of_decide_eq_false hc)
  | succ c ih =>
    intro k hkc Z hZ ki hki
    subst hki; subst hZ
    refine EV.icm rfl (fun hc => ?_) (fun hc => ?_)
    · exact absurd (of_decide_eq_true hc) (nI_ge (b := 8) (by omega) (by decide))
    · have e1 : (8 : Int32) * nI p + nI k = nI (8 * p + k) := by
        have a1 : (8 : Int32) * nI p = nI (8 * p) := pk_mul 8 p
        rw [a1, nI_add]
      repeat (first | refine EV.s rfl rfl rfl ?_ | refine EW.get 0 hD rfl rfl rfl h9 ?_)
      refine EW.iast 8 (8 * p + k) hD rfl rfl rfl (by omega) e1 (by omega) (by decide) ?_
      repeat refine EV.s rfl rfl rfl ?_
      exact ih (k + 1) (by omega) _ ((zf_s Me (Nat.le_add_right _ k)).symm) _ (nI_1 k)
set_option maxHeartbeats 1000000 in
set_option maxRecDepth 100000 in
theorem r_becomes (d M p : Nat) (t : Int32) (fs : List Value) (h2 : fs[2]? = some (.ref (M + 1))) (h3 : fs[3]? = some (.ref (M + 2))) (h4 : fs[4]? = some (.ref (M + 3))) (h5 : fs[5]? = some (.ref (M + 4))) (h6 : fs[6]? = some (.ref (M + 5))) (h7 : fs[7]? = some (.ref (M + 6))) (h8 : fs[8]? = some (.ref (M + 7))) (h9 : fs[9]? = some (.ref (M + 8))) (hp : p < 40) (tp ow ad rt id se W Me : Nat → Int32) (h : e_H) (hD : [M, M + 1, M + 2, M + 3, M + 4, M + 5, M + 6, M + 7, M + 8].Nodup) (hb : bs ≤ M) :
    ev_run tbs bs sa (d + 1) 80 [.ref M, .int (nI p), .int t] (wd [M, M + 1, M + 2, M + 3, M + 4, M + 5, M + 6, M + 7, M + 8] [.inl (5, fs), .inr (.inl (40, tp)), .inr (.inl (40, ow)), .inr (.inl (40, ad)), .inr (.inl (40, rt)), .inr (.inl (40, id)), .inr (.inl (40, se)), .inr (.inl (1280, W)), .inr (.inl (320, Me))] h) none
      (wd [M, M + 1, M + 2, M + 3, M + 4, M + 5, M + 6, M + 7, M + 8] [.inl (5, fs), .inr (.inl (40, upd tp p t)), .inr (.inl (40, upd ow p (-1))), .inr (.inl (40, upd ad p 0)), .inr (.inl (40, upd rt p 0)), .inr (.inl (40, upd id p 0)), .inr (.inl (40, upd se p 0)), .inr (.inl (1280, zf W (32 * p) (32 * p + 32))), .inr (.inl (320, zf Me (8 * p) (8 * p + 8)))] h) := by
  refine RUN.mk (T := t_X5_becomes) rfl (Nat.le_of_ble_eq_true rfl) ?_
  repeat (first | refine EV.s rfl rfl rfl ?_ | refine EW.get 0 hD rfl rfl rfl h2 ?_)
  refine EW.iast 1 p hD rfl rfl rfl (by omega) rfl hp (by decide) ?_
  repeat (first | refine EV.s rfl rfl rfl ?_ | refine EW.get 0 hD rfl rfl rfl h3 ?_)
  refine EW.iast 2 p hD rfl rfl rfl (by omega) rfl hp (by decide) ?_
  repeat (first | refine EV.s rfl rfl rfl ?_ | refine EW.get 0 hD rfl rfl rfl h4 ?_)
  refine EW.iast 3 p hD rfl rfl rfl (by omega) rfl hp (by decide) ?_
  repeat (first | refine EV.s rfl rfl rfl ?_ | refine EW.get 0 hD rfl rfl rfl h5 ?_)
  refine EW.iast 4 p hD rfl rfl rfl (by omega) rfl hp (by decide) ?_
  repeat (first | refine EV.s rfl rfl rfl ?_ | refine EW.get 0 hD rfl rfl rfl h6 ?_)
  refine EW.iast 5 p hD rfl rfl rfl (by omega) rfl hp (by decide) ?_
  repeat (first | refine EV.s rfl rfl rfl ?_ | refine EW.get 0 hD rfl rfl rfl h7 ?_)
  refine EW.iast 6 p hD rfl rfl rfl (by omega) rfl hp (by decide) ?_
  try simp only [setm, List.set_cons_succ, List.set_cons_zero, Option.toList, List.nil_append, List.cons_append]
  repeat refine EV.s rfl rfl rfl ?_
  refine r_bec1 d M p t fs h8 hp _ _ _ _ _ _ W Me hb h hD _ (fun ki => ?_) 32 0 rfl W (zf_0 W _).symm _ rfl
  repeat refine EV.s rfl rfl rfl ?_
  refine r_bec2 d M p t fs h9 hp _ _ _ _ _ _ _ Me hb h hD _ ?_ 8 0 rfl Me (zf_0 Me _).symm _ rfl
  rfl
set_option maxHeartbeats 1000000 in
set_option maxRecDepth 100000 in
theorem r_mea1 (d M e p : Nat) (a : Int32) (fs : List Value) (h9 : fs[9]? = some (.ref (M + 8))) (h18 : fs[18]? = some (.ref (M + 12))) (he : e < 40) (tp rt W Me A H G T I K : Nat → Int32) (hb : bs ≤ M) (h : e_H) (hD : [M, M + 1, M + 4, M + 7, M + 8, M + 12, M + 13, M + 14, M + 15, sa 3, sa 4].Nodup) (E : e_C ⊕ (Option Value × e_H) → Prop)
    (hK : ∀ (ki : Int32), ev_E tbs bs sa (d + 3) t_X5_measured E (35, [some (.ref M), some (.int (nI e)), some (.int (nI p)), some (.int a), some (.int ki)], [], wd [M, M + 1, M + 4, M + 7, M + 8, M + 12, M + 13, M + 14, M + 15, sa 3, sa 4] [.inl (5, fs), .inr (.inl (40, tp)), .inr (.inl (40, rt)), .inr (.inl (1280, W)), .inr (.inl (320, Me)), .inr (.inl (80, va_cpy Me A (8 * e) 0 8)), .inr (.inl (8, H)), .inr (.inl (64, G)), .inr (.inl (8, T)), .inr (.inl (8, I)), .inr (.inl (64, K))] h)) :
    ∀ (c k : Nat), k + c = 8 → ∀ Z, Z = va_cpy Me A (8 * e) 0 k → ∀ (ki : Int32), ki = nI k → ev_E tbs bs sa (d + 3) t_X5_measured E (7, [some (.ref M), some (.int (nI e)), some (.int (nI p)), some (.int a), some (.int ki)], [.int 8, .int ki], wd [M, M + 1, M + 4, M + 7, M + 8, M + 12, M + 13, M + 14, M + 15, sa 3, sa 4] [.inl (5, fs), .inr (.inl (40, tp)), .inr (.inl (40, rt)), .inr (.inl (1280, W)), .inr (.inl (320, Me)), .inr (.inl (80, Z)), .inr (.inl (8, H)), .inr (.inl (64, G)), .inr (.inl (8, T)), .inr (.inl (8, I)), .inr (.inl (64, K))] h) := by
  intro c
  induction c with
  | zero =>
    intro k hkc Z hZ ki hki
    have e : k = 8 := by omega
    subst e; subst hZ; subst hki
    refine EV.icm rfl (fun hc => ?_) (fun hc => ?_)
    · exact hK _
    · exact absurd (by decide : (8 : Int32) ≤ nI 8) (of_decide_eq_false hc)
  | succ c ih =>
    intro k hkc Z hZ ki hki
    subst hki; subst hZ
    refine EV.icm rfl (fun hc => ?_) (fun hc => ?_)
    · exact absurd (of_decide_eq_true hc) (nI_ge (b := 8) (by omega) (by decide))
    · have e1 : (8 : Int32) * nI e + nI k = nI (8 * e + k) := by
        have a1 : (8 : Int32) * nI e = nI (8 * e) := pk_mul 8 e
        rw [a1, nI_add]
      repeat (first | refine EV.s rfl rfl rfl ?_ | refine EW.get 0 hD rfl rfl rfl h9 ?_ | refine EW.get 0 hD rfl rfl rfl h18 ?_)
      refine EW.iald 4 (8 * e + k) hD rfl rfl rfl e1 (by omega) (by decide) ?_
      refine EW.iast 5 k hD rfl rfl rfl (by omega) rfl (by omega) (by decide) ?_
      repeat refine EV.s rfl rfl rfl ?_
      exact ih (k + 1) (by omega) _ (by rw [cpyS, Nat.zero_add]) _ (nI_1 k)
set_option maxHeartbeats 1000000 in
set_option maxRecDepth 100000 in
theorem r_mea2 (d M e p : Nat) (a : Int32) (fs : List Value) (h8 : fs[8]? = some (.ref (M + 7))) (h18 : fs[18]? = some (.ref (M + 12))) (hp : p < 40) (tp rt W Me A H G T I K : Nat → Int32) (hb : bs ≤ M) (h : e_H) (hD : [M, M + 1, M + 4, M + 7, M + 8, M + 12, M + 13, M + 14, M + 15, sa 3, sa 4].Nodup) (E : e_C ⊕ (Option Value × e_H) → Prop)
    (hK : ∀ (ki : Int32), ev_E tbs bs sa (d + 3) t_X5_measured E (115, [some (.ref M), some (.int (nI e)), some (.int (nI p)), some (.int a), some (.int ki)], [], wd [M, M + 1, M + 4, M + 7, M + 8, M + 12, M + 13, M + 14, M + 15, sa 3, sa 4] [.inl (5, fs), .inr (.inl (40, tp)), .inr (.inl (40, rt)), .inr (.inl (1280, W)), .inr (.inl (320, Me)), .inr (.inl (80, va_cpy W A (32 * p) 12 32)), .inr (.inl (8, H)), .inr (.inl (64, G)), .inr (.inl (8, T)), .inr (.inl (8, I)), .inr (.inl (64, K))] h)) :
    ∀ (c k : Nat), k + c = 32 → ∀ Z, Z = va_cpy W A (32 * p) 12 k → ∀ (ki : Int32), ki = nI k → ev_E tbs bs sa (d + 3) t_X5_measured E (84, [some (.ref M), some (.int (nI e)), some (.int (nI p)), some (.int a), some (.int ki)], [.int 32, .int ki], wd [M, M + 1, M + 4, M + 7, M + 8, M + 12, M + 13, M + 14, M + 15, sa 3, sa 4] [.inl (5, fs), .inr (.inl (40, tp)), .inr (.inl (40, rt)), .inr (.inl (1280, W)), .inr (.inl (320, Me)), .inr (.inl (80, Z)), .inr (.inl (8, H)), .inr (.inl (64, G)), .inr (.inl (8, T)), .inr (.inl (8, I)), .inr (.inl (64, K))] h) := by
  intro c
  induction c with
  | zero =>
    intro k hkc Z hZ ki hki
    have e : k = 32 := by omega
    subst e; subst hZ; subst hki
    refine EV.icm rfl (fun hc => ?_) (fun hc => ?_)
    · exact hK _
    · exact absurd (by decide : (32 : Int32) ≤ nI 32) (of_decide_eq_false hc)
  | succ c ih =>
    intro k hkc Z hZ ki hki
    subst hki; subst hZ
    refine EV.icm rfl (fun hc => ?_) (fun hc => ?_)
    · exact absurd (of_decide_eq_true hc) (nI_ge (b := 32) (by omega) (by decide))
    · have e1 : (32 : Int32) * nI p + nI k = nI (32 * p + k) := by
        have a1 : (32 : Int32) * nI p = nI (32 * p) := pk_mul 32 p
        rw [a1, nI_add]
      repeat (first | refine EV.s rfl rfl rfl ?_ | refine EW.get 0 hD rfl rfl rfl h8 ?_ | refine EW.get 0 hD rfl rfl rfl h18 ?_)
      refine EW.iald 3 (32 * p + k) hD rfl rfl rfl e1 (by omega) (by decide) ?_
      refine EW.iast 5 (12 + k) hD rfl rfl rfl (by omega) (nI_add 12 k) (by omega) (by decide) ?_
      repeat refine EV.s rfl rfl rfl ?_
      exact ih (k + 1) (by omega) _ ((cpyS W A (32 * p) 12 k).symm) _ (nI_1 k)
set_option maxHeartbeats 1000000 in
set_option maxRecDepth 100000 in
theorem r_mea3 (d M e p : Nat) (a : Int32) (fs : List Value) (h9 : fs[9]? = some (.ref (M + 8))) (h19 : fs[19]? = some (.ref (M + 13))) (he : e < 40) (tp rt W Me A H G T I K : Nat → Int32) (hb : bs ≤ M) (h : e_H) (hD : [M, M + 1, M + 4, M + 7, M + 8, M + 12, M + 13, M + 14, M + 15, sa 3, sa 4].Nodup) (E : e_C ⊕ (Option Value × e_H) → Prop)
    (hK : E (.inr (none, wd [M, M + 1, M + 4, M + 7, M + 8, M + 12, M + 13, M + 14, M + 15, sa 3, sa 4] [.inl (5, fs), .inr (.inl (40, tp)), .inr (.inl (40, rt)), .inr (.inl (1280, W)), .inr (.inl (320, va_cpy H Me 0 (8 * e) 8)), .inr (.inl (80, A)), .inr (.inl (8, H)), .inr (.inl (64, G)), .inr (.inl (8, T)), .inr (.inl (8, I)), .inr (.inl (64, K))] h))) :
    ∀ (c k : Nat), k + c = 8 → ∀ Z, Z = va_cpy H Me 0 (8 * e) k → ∀ (ki : Int32), ki = nI k → ev_E tbs bs sa (d + 3) t_X5_measured E (128, [some (.ref M), some (.int (nI e)), some (.int (nI p)), some (.int a), some (.int ki)], [.int 8, .int ki], wd [M, M + 1, M + 4, M + 7, M + 8, M + 12, M + 13, M + 14, M + 15, sa 3, sa 4] [.inl (5, fs), .inr (.inl (40, tp)), .inr (.inl (40, rt)), .inr (.inl (1280, W)), .inr (.inl (320, Z)), .inr (.inl (80, A)), .inr (.inl (8, H)), .inr (.inl (64, G)), .inr (.inl (8, T)), .inr (.inl (8, I)), .inr (.inl (64, K))] h) := by
  intro c
  induction c with
  | zero =>
    intro k hkc Z hZ ki hki
    have e : k = 8 := by omega
    subst e; subst hZ; subst hki
    refine EV.icm rfl (fun hc => ?_) (fun hc => ?_)
    · refine EV.ret rfl ?_
      exact hK
    · exact absurd (by decide : (8 : Int32) ≤ nI 8) (of_decide_eq_false hc)
  | succ c ih =>
    intro k hkc Z hZ ki hki
    subst hki; subst hZ
    refine EV.icm rfl (fun hc => ?_) (fun hc => ?_)
    · exact absurd (of_decide_eq_true hc) (nI_ge (b := 8) (by omega) (by decide))
    · have e1 : (8 : Int32) * nI e + nI k = nI (8 * e + k) := by
        have a1 : (8 : Int32) * nI e = nI (8 * e) := pk_mul 8 e
        rw [a1, nI_add]
      repeat (first | refine EV.s rfl rfl rfl ?_ | refine EW.get 0 hD rfl rfl rfl h9 ?_ | refine EW.get 0 hD rfl rfl rfl h19 ?_)
      refine EW.iald 6 k hD rfl rfl rfl rfl (by omega) (by decide) ?_
      refine EW.iast 4 (8 * e + k) hD rfl rfl rfl (by omega) e1 (by omega) (by decide) ?_
      repeat refine EV.s rfl rfl rfl ?_
      exact ih (k + 1) (by omega) _ ((cpy_s H Me (8 * e) k).symm) _ (nI_1 k)
set_option maxHeartbeats 1000000 in
set_option maxRecDepth 100000 in
theorem r_measured (d M e p : Nat) (a : Int32) (fs : List Value) (h2 : fs[2]? = some (.ref (M + 1))) (h5 : fs[5]? = some (.ref (M + 4))) (h8 : fs[8]? = some (.ref (M + 7))) (h9 : fs[9]? = some (.ref (M + 8))) (h18 : fs[18]? = some (.ref (M + 12))) (h19 : fs[19]? = some (.ref (M + 13))) (h20 : fs[20]? = some (.ref (M + 14))) (h21 : fs[21]? = some (.ref (M + 15))) (he : e < 40) (hp : p < 40) (tp rt W Me A H G T I K : Nat → Int32) (hD : [M, M + 1, M + 4, M + 7, M + 8, M + 12, M + 13, M + 14, M + 15, sa 3, sa 4].Nodup) (hb : bs ≤ M) :
    CT bs sa (d + 4) 84 [.ref M, .int (nI e), .int (nI p), .int a] [M, M + 1, M + 4, M + 7, M + 8, M + 12, M + 13, M + 14, M + 15, sa 3, sa 4] [.inl (5, fs), .inr (.inl (40, tp)), .inr (.inl (40, rt)), .inr (.inl (1280, W)), .inr (.inl (320, Me)), .inr (.inl (80, A)), .inr (.inl (8, H)), .inr (.inl (64, G)), .inr (.inl (8, T)), .inr (.inl (8, I)), .inr (.inl (64, K))]
      (fun rv o => rv = none ∧ ∃ Me' A' H' G' T', o = [.inl (5, fs), .inr (.inl (40, tp)), .inr (.inl (40, rt)), .inr (.inl (1280, W)), .inr (.inl (320, Me')), .inr (.inl (80, A')), .inr (.inl (8, H')), .inr (.inl (64, G')), .inr (.inl (8, T')), .inr (.inl (8, I)), .inr (.inl (64, K))] ∧ Me' = va_cpy (mea K I (fun j => Me (8 * e + j)) (tp p) a (rt p) (fun j => W (32 * p + j))) Me 0 (8 * e) 8) := by
  refine CT.mk (T := t_X5_measured) rfl (Nat.le_of_ble_eq_true rfl) (fun h => ?_)
  repeat refine EV.s rfl rfl rfl ?_
  refine r_mea1 d M e p a fs h9 h18 he tp rt W Me A H G T I K hb h hD _ (fun ki => ?_) 8 0 rfl A (cpy0 _ _ _ _).symm _ rfl
  repeat (first | refine EV.s rfl rfl rfl ?_ | refine EW.get 0 hD rfl rfl rfl h2 ?_ | refine EW.get 0 hD rfl rfl rfl h18 ?_)
  refine EW.iald 1 p hD rfl rfl rfl rfl hp (by decide) ?_
  refine EW.iast 5 8 hD rfl rfl rfl (by omega) rfl (by decide) (by decide) ?_
  repeat (first | refine EV.s rfl rfl rfl ?_ | refine EW.get 0 hD rfl rfl rfl h18 ?_)
  refine EW.iast 5 9 hD rfl rfl rfl (by omega) rfl (by decide) (by decide) ?_
  repeat (first | refine EV.s rfl rfl rfl ?_ | refine EW.get 0 hD rfl rfl rfl h5 ?_ | refine EW.get 0 hD rfl rfl rfl h18 ?_)
  refine EW.iald 2 p hD rfl rfl rfl rfl hp (by decide) ?_
  refine EW.iast 5 10 hD rfl rfl rfl (by omega) rfl (by decide) (by decide) ?_
  repeat (first | refine EV.s rfl rfl rfl ?_ | refine EW.get 0 hD rfl rfl rfl h18 ?_)
  refine EW.iast 5 11 hD rfl rfl rfl (by omega) rfl (by decide) (by decide) ?_
  try simp only [setm, List.set_cons_succ, List.set_cons_zero, Option.toList, List.nil_append, List.cons_append]
  repeat refine EV.s rfl rfl rfl ?_
  refine r_mea2 d M e p a fs h8 h18 hp tp rt W Me (upd (upd (upd (upd (va_cpy Me A (8 * e) 0 8) 8 (tp p)) 9 a) 10 (rt p)) 11 0) H G T I K hb h hD _ (fun ki => ?_) 32 0 rfl _ (cpy0 _ _ _ _).symm _ rfl
  repeat refine EV.s rfl rfl rfl ?_
  refine EW.cvE 0 [0, 5, 6, 7, 8, 9, 10] hD (r_digest d M 44 (by decide) fs h18 h19 h20 h21 _ H G T I K (nd_sub hD [0, 5, 6, 7, 8, 9, 10] (by decide) rfl) hb) rfl rfl rfl rfl rfl (Nat.le_of_ble_eq_true rfl) (Nat.le_of_ble_eq_true rfl) rfl rfl rfl ?_
  rintro rv os2 ⟨rfl, H1, G1, T1, rfl, hH1⟩
  try simp only [setm, List.set_cons_succ, List.set_cons_zero, Option.toList, List.nil_append, List.cons_append]
  repeat refine EV.s rfl rfl rfl ?_
  refine r_mea3 d M e p a fs h9 h19 he tp rt W Me _ H1 G1 T1 I K hb h hD _ ?_ 8 0 rfl _ (cpy_0 _ _ _).symm _ rfl
  refine ⟨_, _, rfl, _, ⟨⟨rfl, _, _, _, _, _, rfl, cpy_ext (fun j hj => ?_)⟩, rfl⟩, rfl⟩
  rw [hH1 j hj]
  refine sha_congr (fun _ _ => rfl) (fun _ _ => rfl) (fun i hi => ?_) hj
  simp only [va_cpy, upd]
  by_cases q8 : i < 8
  · rw [if_neg (by omega), if_neg (by omega), if_neg (by omega), if_neg (by omega), if_neg (by omega), if_pos (by omega), if_pos q8]; congr 1
  · rw [if_neg q8]
    by_cases q12 : i < 12
    · rw [if_neg (by omega)]
      have : i = 8 ∨ i = 9 ∨ i = 10 ∨ i = 11 := by omega
      rcases this with rfl | rfl | rfl | rfl <;> simp
    · rw [if_pos (by omega), if_neg (by omega), if_neg (by omega), if_neg (by omega), if_neg (by omega)]
end MME
end
section
theorem ua_up (x : Int64) : ua64 x = up64 x := by
  have e1 : ((32 : Int32).toInt64 &&& 63) = 32 := by decide
  have e2 : ((32 : Int32).toInt64.toUInt64 &&& Int64.toUInt64 63) = 32 := by decide
  unfold ua64 up64
  rw [e1, e2]
  apply Int32.toBitVec_inj.mp
  apply BitVec.eq_of_getLsbD_eq
  intro i hi
  have e3 : ((32 : Int64).toBitVec.smod 64#64).toNat = 32 := by decide
  have e4 : ((32 : UInt64).toBitVec % 64#64).toNat = 32 := by decide
  simp [BitVec.getLsbD_signExtend, BitVec.getLsbD_sshiftRight, e3, e4]
  have h1 : i < 64 := by omega
  have h2 : ¬ 64 ≤ i := by omega
  have h3 : 32 + i < 64 := by omega
  simp [hi, h1, h2, h3]
end
section
def fx (F : Nat → Int32) (f : Nat) (Y : Nat → Int32) (t : Nat) (g : Nat → Int32) (q : Nat) : Nat → Int32 := fun j => if t ≤ j ∧ j < t + q then F (f + (j - t)) ^^^ g (j - t) else Y j
theorem fx_0 (F : Nat → Int32) (f : Nat) (Y : Nat → Int32) (t : Nat) (g : Nat → Int32) : fx F f Y t g 0 = Y := by
  funext j; simp only [fx]; rw [if_neg (by omega)]
theorem fx_s (F : Nat → Int32) (f : Nat) (Y : Nat → Int32) (t : Nat) (g : Nat → Int32) (q : Nat) (x : Int32) (hx : x = g q) : fx F f Y t g (q + 1) = upd (fx F f Y t g q) (t + q) (F (f + q) ^^^ x) := by
  subst hx
  funext j
  simp only [fx, upd]
  by_cases e : j = t + q
  · subst e; rw [if_pos rfl, if_pos (by omega), Nat.add_sub_cancel_left]
  · rw [if_neg e]
    by_cases z : t ≤ j ∧ j < t + q
    · rw [if_pos z, if_pos (by omega)]
    · rw [if_neg z, if_neg (by omega)]
theorem fx_lo {F : Nat → Int32} {f : Nat} {Y : Nat → Int32} {t : Nat} {g : Nat → Int32} {q j : Nat} (h : j < t) : fx F f Y t g q j = Y j := by
  simp only [fx]; rw [if_neg (by omega)]
section MSL
variable {bs : Nat} {sa : Nat → Nat}
set_option maxHeartbeats 1000000 in
set_option maxRecDepth 100000 in
theorem r_sealAin (d M f t b : Nat) (fs : List Value) (h23 : fs[23]? = some (.ref (M + 17))) (hf : f + 32 ≤ 1280) (ht : t + 32 ≤ 64) (hb2 : b < 2) (g W B key S St : Nat → Int32) (hSt : ∀ k, k < 16 → St k = g (16 * b + k)) (bi : Int32) (hbi : bi = nI b) (hb : bs ≤ M) (h : e_H) (hD : [M, M + 7, M + 9, M + 10, M + 16, M + 17].Nodup) (E : e_C ⊕ (Option Value × e_H) → Prop)
    (hK : ∀ (ki : Int32), ev_E tbs bs sa (d + 3) t_X5_seal E (78, [some (.ref M), some (.ref (M + 7)), some (.int (nI f)), some (.ref (M + 9)), some (.int (nI t)), some (.int bi), some (.int ki)], [], wd [M, M + 7, M + 9, M + 10, M + 16, M + 17] [.inl (5, fs), .inr (.inl (1280, W)), .inr (.inl (64, fx W f B t g (16 * b + 16))), .inr (.inl (8, key)), .inr (.inl (16, S)), .inr (.inl (16, St))] h)) :
    ∀ (c k : Nat), k + c = 16 → ∀ Z, Z = fx W f B t g (16 * b + k) → ∀ (ki : Int32), ki = nI k → ev_E tbs bs sa (d + 3) t_X5_seal E (36, [some (.ref M), some (.ref (M + 7)), some (.int (nI f)), some (.ref (M + 9)), some (.int (nI t)), some (.int bi), some (.int ki)], [.int 16, .int ki], wd [M, M + 7, M + 9, M + 10, M + 16, M + 17] [.inl (5, fs), .inr (.inl (1280, W)), .inr (.inl (64, Z)), .inr (.inl (8, key)), .inr (.inl (16, S)), .inr (.inl (16, St))] h) := by
  intro c
  induction c with
  | zero =>
    intro k hkc Z hZ ki hki
    have e : k = 16 := by omega
    subst e; subst hZ; subst hki
    refine EV.icm rfl (fun hc => ?_) (fun hc => ?_)
    · exact hK _
    · exact absurd (by decide : (16 : Int32) ≤ nI 16) (of_decide_eq_false hc)
  | succ c ih =>
    intro k hkc Z hZ ki hki
    subst hki; subst hZ
    refine EV.icm rfl (fun hc => ?_) (fun hc => ?_)
    · exact absurd (of_decide_eq_true hc) (nI_ge (b := 16) (by omega) (by decide))
    · have e1 : nI t + 16 * bi + nI k = nI (t + (16 * b + k)) := by
        have a1 : (16 : Int32) * bi = nI (16 * b) := by rw [hbi]; exact pk_mul 16 b
        rw [a1, nI_add, nI_add]; congr 1; omega
      have e2 : nI f + 16 * bi + nI k = nI (f + (16 * b + k)) := by
        have a1 : (16 : Int32) * bi = nI (16 * b) := by rw [hbi]; exact pk_mul 16 b
        rw [a1, nI_add, nI_add]; congr 1; omega
      repeat refine EV.s rfl rfl rfl ?_
      refine EW.iald 1 (f + (16 * b + k)) hD rfl rfl rfl e2 (by omega) (by decide) ?_
      repeat (first | refine EV.s rfl rfl rfl ?_ | refine EW.get 0 hD rfl rfl rfl h23 ?_)
      refine EW.iald 5 k hD rfl rfl rfl rfl (by omega) (by decide) ?_
      repeat refine EV.s rfl rfl rfl ?_
      refine EW.iast 2 (t + (16 * b + k)) hD rfl rfl rfl (by omega) e1 (by omega) (by decide) ?_
      repeat refine EV.s rfl rfl rfl ?_
      exact ih (k + 1) (by omega) _ ((fx_s W f B t g (16 * b + k) (St k) (hSt k (by omega))).symm) _ (nI_1 k)
set_option maxHeartbeats 1000000 in
set_option maxRecDepth 100000 in
theorem r_sealAout (d M f t : Nat) (fs : List Value) (h10 : fs[10]? = some (.ref (M + 9))) (h11 : fs[11]? = some (.ref (M + 10))) (h22 : fs[22]? = some (.ref (M + 16))) (h23 : fs[23]? = some (.ref (M + 17))) (hf : f + 32 ≤ 1280) (ht : t + 32 ≤ 64) (h8 : 6 ≤ t) (W B key : Nat → Int32) (hb : bs ≤ M) (h : e_H) (hD : [M, M + 7, M + 9, M + 10, M + 16, M + 17].Nodup) (E : e_C ⊕ (Option Value × e_H) → Prop)
    (hK : ∀ S St, E (.inr (none, wd [M, M + 7, M + 9, M + 10, M + 16, M + 17] [.inl (5, fs), .inr (.inl (1280, W)), .inr (.inl (64, fx W f B t (sm cc4 key (B 4) (B 5)) 32)), .inr (.inl (8, key)), .inr (.inl (16, S)), .inr (.inl (16, St))] h))) :
    ∀ (c b : Nat), b + c = 2 → ∀ Z, Z = fx W f B t (sm cc4 key (B 4) (B 5)) (16 * b) → ∀ (ki : Int32), ki = nI b → ∀ (l6 : Option Value) (S St : Nat → Int32), ev_E tbs bs sa (d + 3) t_X5_seal E (6, [some (.ref M), some (.ref (M + 7)), some (.int (nI f)), some (.ref (M + 9)), some (.int (nI t)), some (.int ki), l6], [.int 2, .int ki], wd [M, M + 7, M + 9, M + 10, M + 16, M + 17] [.inl (5, fs), .inr (.inl (1280, W)), .inr (.inl (64, Z)), .inr (.inl (8, key)), .inr (.inl (16, S)), .inr (.inl (16, St))] h) := by
  intro c
  induction c with
  | zero =>
    intro b hkc Z hZ ki hki l6 S St
    have e : b = 2 := by omega
    subst e; subst hZ; subst hki
    refine EV.icm rfl (fun hc => ?_) (fun hc => ?_)
    · refine EV.ret rfl ?_
      exact hK S St
    · exact absurd (by decide : (2 : Int32) ≤ nI 2) (of_decide_eq_false hc)
  | succ c ih =>
    intro b hkc Z hZ ki hki l6 S St
    subst hki; subst hZ
    refine EV.icm rfl (fun hc => ?_) (fun hc => ?_)
    · exact absurd (of_decide_eq_true hc) (nI_ge (b := 2) (by omega) (by decide))
    · repeat (first | refine EV.s rfl rfl rfl ?_ | refine EW.get 0 hD rfl rfl rfl h10 ?_)
      refine EW.iald 2 4 hD rfl rfl rfl rfl (by decide) (by decide) ?_
      repeat (first | refine EV.s rfl rfl rfl ?_ | refine EW.get 0 hD rfl rfl rfl h10 ?_)
      refine EW.iald 2 5 hD rfl rfl rfl rfl (by decide) (by decide) ?_
      rw [fx_lo (j := 4) (by omega), fx_lo (j := 5) (by omega)]
      refine EW.cvE 0 [0, 3, 4, 5] hD (r_stream d M fs h11 h22 h23 (1 + nI b) (B 4) (B 5) key S St (nd_sub hD [0, 3, 4, 5] (by decide) rfl) hb) rfl rfl rfl rfl rfl (Nat.le_of_ble_eq_true rfl) (Nat.le_of_ble_eq_true rfl) rfl rfl rfl ?_
      rintro rv os2 ⟨rfl, S', St', rfl, hal⟩
      try simp only [setm, List.set_cons_succ, List.set_cons_zero, Option.toList, List.nil_append, List.cons_append]
      repeat refine EV.s rfl rfl rfl ?_
      refine r_sealAin d M f t b fs h23 hf ht (by omega) (sm cc4 key (B 4) (B 5)) W B key S' St' (fun k hk => ?_) (nI b) rfl hb h hD _ (fun ki => ?_) 16 0 rfl _ rfl _ rfl
      · rw [hal k hk]
        simp only [sm]
        rw [show (16 * b + k) / 16 = b by omega, show (16 * b + k) % 16 = k by omega, Int32.add_comm]
      · repeat refine EV.s rfl rfl rfl ?_
        exact ih (b + 1) (by omega) _ rfl _ (nI_1 b) _ _ _
set_option maxHeartbeats 1000000 in
set_option maxRecDepth 100000 in
theorem r_sealA (d M f t : Nat) (fs : List Value) (h10 : fs[10]? = some (.ref (M + 9))) (h11 : fs[11]? = some (.ref (M + 10))) (h22 : fs[22]? = some (.ref (M + 16))) (h23 : fs[23]? = some (.ref (M + 17))) (hf : f + 32 ≤ 1280) (ht : t + 32 ≤ 64) (h8 : 6 ≤ t) (W B key S St : Nat → Int32) (hb : bs ≤ M) (hD : [M, M + 7, M + 9, M + 10, M + 16, M + 17].Nodup) :
    CT bs sa (d + 4) 77 [.ref M, .ref (M + 7), .int (nI f), .ref (M + 9), .int (nI t)] [M, M + 7, M + 9, M + 10, M + 16, M + 17] [.inl (5, fs), .inr (.inl (1280, W)), .inr (.inl (64, B)), .inr (.inl (8, key)), .inr (.inl (16, S)), .inr (.inl (16, St))]
      (fun rv o => rv = none ∧ ∃ S' St', o = [.inl (5, fs), .inr (.inl (1280, W)), .inr (.inl (64, fx W f B t (sm cc4 key (B 4) (B 5)) 32)), .inr (.inl (8, key)), .inr (.inl (16, S')), .inr (.inl (16, St'))]) := by
  refine CT.mk (T := t_X5_seal) rfl (Nat.le_of_ble_eq_true rfl) (fun h => ?_)
  repeat refine EV.s rfl rfl rfl ?_
  refine r_sealAout d M f t fs h10 h11 h22 h23 hf ht h8 W B key hb h hD _ (fun S' St' => ?_) 2 0 rfl _ (fx_0 _ _ _ _ _).symm _ rfl none S St
  exact ⟨_, _, rfl, _, ⟨⟨rfl, S', St', rfl⟩, rfl⟩, rfl⟩
set_option maxHeartbeats 1000000 in
set_option maxRecDepth 100000 in
theorem r_sealBin (d M f t b : Nat) (fs : List Value) (h23 : fs[23]? = some (.ref (M + 17))) (hf : f + 32 ≤ 64) (ht : t + 32 ≤ 1280) (hb2 : b < 2) (g W B key S St : Nat → Int32) (hSt : ∀ k, k < 16 → St k = g (16 * b + k)) (bi : Int32) (hbi : bi = nI b) (hb : bs ≤ M) (h : e_H) (hD : [M, M + 7, M + 9, M + 10, M + 16, M + 17].Nodup) (E : e_C ⊕ (Option Value × e_H) → Prop)
    (hK : ∀ (ki : Int32), ev_E tbs bs sa (d + 3) t_X5_seal E (78, [some (.ref M), some (.ref (M + 9)), some (.int (nI f)), some (.ref (M + 7)), some (.int (nI t)), some (.int bi), some (.int ki)], [], wd [M, M + 7, M + 9, M + 10, M + 16, M + 17] [.inl (5, fs), .inr (.inl (1280, fx B f W t g (16 * b + 16))), .inr (.inl (64, B)), .inr (.inl (8, key)), .inr (.inl (16, S)), .inr (.inl (16, St))] h)) :
    ∀ (c k : Nat), k + c = 16 → ∀ Z, Z = fx B f W t g (16 * b + k) → ∀ (ki : Int32), ki = nI k → ev_E tbs bs sa (d + 3) t_X5_seal E (36, [some (.ref M), some (.ref (M + 9)), some (.int (nI f)), some (.ref (M + 7)), some (.int (nI t)), some (.int bi), some (.int ki)], [.int 16, .int ki], wd [M, M + 7, M + 9, M + 10, M + 16, M + 17] [.inl (5, fs), .inr (.inl (1280, Z)), .inr (.inl (64, B)), .inr (.inl (8, key)), .inr (.inl (16, S)), .inr (.inl (16, St))] h) := by
  intro c
  induction c with
  | zero =>
    intro k hkc Z hZ ki hki
    have e : k = 16 := by omega
    subst e; subst hZ; subst hki
    refine EV.icm rfl (fun hc => ?_) (fun hc => ?_)
    · exact hK _
    · exact absurd (by decide : (16 : Int32) ≤ nI 16) (of_decide_eq_false hc)
  | succ c ih =>
    intro k hkc Z hZ ki hki
    subst hki; subst hZ
    refine EV.icm rfl (fun hc => ?_) (fun hc => ?_)
    · exact absurd (of_decide_eq_true hc) (nI_ge (b := 16) (by omega) (by decide))
    · have e1 : nI t + 16 * bi + nI k = nI (t + (16 * b + k)) := by
        have a1 : (16 : Int32) * bi = nI (16 * b) := by rw [hbi]; exact pk_mul 16 b
        rw [a1, nI_add, nI_add]; congr 1; omega
      have e2 : nI f + 16 * bi + nI k = nI (f + (16 * b + k)) := by
        have a1 : (16 : Int32) * bi = nI (16 * b) := by rw [hbi]; exact pk_mul 16 b
        rw [a1, nI_add, nI_add]; congr 1; omega
      repeat refine EV.s rfl rfl rfl ?_
      refine EW.iald 2 (f + (16 * b + k)) hD rfl rfl rfl e2 (by omega) (by decide) ?_
      repeat (first | refine EV.s rfl rfl rfl ?_ | refine EW.get 0 hD rfl rfl rfl h23 ?_)
      refine EW.iald 5 k hD rfl rfl rfl rfl (by omega) (by decide) ?_
      repeat refine EV.s rfl rfl rfl ?_
      refine EW.iast 1 (t + (16 * b + k)) hD rfl rfl rfl (by omega) e1 (by omega) (by decide) ?_
      repeat refine EV.s rfl rfl rfl ?_
      exact ih (k + 1) (by omega) _ ((fx_s B f W t g (16 * b + k) (St k) (hSt k (by omega))).symm) _ (nI_1 k)
set_option maxHeartbeats 1000000 in
set_option maxRecDepth 100000 in
theorem r_sealBout (d M f t : Nat) (fs : List Value) (h10 : fs[10]? = some (.ref (M + 9))) (h11 : fs[11]? = some (.ref (M + 10))) (h22 : fs[22]? = some (.ref (M + 16))) (h23 : fs[23]? = some (.ref (M + 17))) (hf : f + 32 ≤ 64) (ht : t + 32 ≤ 1280) (W B key : Nat → Int32) (hb : bs ≤ M) (h : e_H) (hD : [M, M + 7, M + 9, M + 10, M + 16, M + 17].Nodup) (E : e_C ⊕ (Option Value × e_H) → Prop)
    (hK : ∀ S St, E (.inr (none, wd [M, M + 7, M + 9, M + 10, M + 16, M + 17] [.inl (5, fs), .inr (.inl (1280, fx B f W t (sm cc4 key (B 4) (B 5)) 32)), .inr (.inl (64, B)), .inr (.inl (8, key)), .inr (.inl (16, S)), .inr (.inl (16, St))] h))) :
    ∀ (c b : Nat), b + c = 2 → ∀ Z, Z = fx B f W t (sm cc4 key (B 4) (B 5)) (16 * b) → ∀ (ki : Int32), ki = nI b → ∀ (l6 : Option Value) (S St : Nat → Int32), ev_E tbs bs sa (d + 3) t_X5_seal E (6, [some (.ref M), some (.ref (M + 9)), some (.int (nI f)), some (.ref (M + 7)), some (.int (nI t)), some (.int ki), l6], [.int 2, .int ki], wd [M, M + 7, M + 9, M + 10, M + 16, M + 17] [.inl (5, fs), .inr (.inl (1280, Z)), .inr (.inl (64, B)), .inr (.inl (8, key)), .inr (.inl (16, S)), .inr (.inl (16, St))] h) := by
  intro c
  induction c with
  | zero =>
    intro b hkc Z hZ ki hki l6 S St
    have e : b = 2 := by omega
    subst e; subst hZ; subst hki
    refine EV.icm rfl (fun hc => ?_) (fun hc => ?_)
    · refine EV.ret rfl ?_
      exact hK S St
    · exact absurd (by decide : (2 : Int32) ≤ nI 2) (of_decide_eq_false hc)
  | succ c ih =>
    intro b hkc Z hZ ki hki l6 S St
    subst hki; subst hZ
    refine EV.icm rfl (fun hc => ?_) (fun hc => ?_)
    · exact absurd (of_decide_eq_true hc) (nI_ge (b := 2) (by omega) (by decide))
    · repeat (first | refine EV.s rfl rfl rfl ?_ | refine EW.get 0 hD rfl rfl rfl h10 ?_)
      refine EW.iald 2 4 hD rfl rfl rfl rfl (by decide) (by decide) ?_
      repeat (first | refine EV.s rfl rfl rfl ?_ | refine EW.get 0 hD rfl rfl rfl h10 ?_)
      refine EW.iald 2 5 hD rfl rfl rfl rfl (by decide) (by decide) ?_
      skip
      refine EW.cvE 0 [0, 3, 4, 5] hD (r_stream d M fs h11 h22 h23 (1 + nI b) (B 4) (B 5) key S St (nd_sub hD [0, 3, 4, 5] (by decide) rfl) hb) rfl rfl rfl rfl rfl (Nat.le_of_ble_eq_true rfl) (Nat.le_of_ble_eq_true rfl) rfl rfl rfl ?_
      rintro rv os2 ⟨rfl, S', St', rfl, hal⟩
      try simp only [setm, List.set_cons_succ, List.set_cons_zero, Option.toList, List.nil_append, List.cons_append]
      repeat refine EV.s rfl rfl rfl ?_
      refine r_sealBin d M f t b fs h23 hf ht (by omega) (sm cc4 key (B 4) (B 5)) W B key S' St' (fun k hk => ?_) (nI b) rfl hb h hD _ (fun ki => ?_) 16 0 rfl _ rfl _ rfl
      · rw [hal k hk]
        simp only [sm]
        rw [show (16 * b + k) / 16 = b by omega, show (16 * b + k) % 16 = k by omega, Int32.add_comm]
      · repeat refine EV.s rfl rfl rfl ?_
        exact ih (b + 1) (by omega) _ rfl _ (nI_1 b) _ _ _
set_option maxHeartbeats 1000000 in
set_option maxRecDepth 100000 in
theorem r_sealB (d M f t : Nat) (fs : List Value) (h10 : fs[10]? = some (.ref (M + 9))) (h11 : fs[11]? = some (.ref (M + 10))) (h22 : fs[22]? = some (.ref (M + 16))) (h23 : fs[23]? = some (.ref (M + 17))) (hf : f + 32 ≤ 64) (ht : t + 32 ≤ 1280) (W B key S St : Nat → Int32) (hb : bs ≤ M) (hD : [M, M + 7, M + 9, M + 10, M + 16, M + 17].Nodup) :
    CT bs sa (d + 4) 77 [.ref M, .ref (M + 9), .int (nI f), .ref (M + 7), .int (nI t)] [M, M + 7, M + 9, M + 10, M + 16, M + 17] [.inl (5, fs), .inr (.inl (1280, W)), .inr (.inl (64, B)), .inr (.inl (8, key)), .inr (.inl (16, S)), .inr (.inl (16, St))]
      (fun rv o => rv = none ∧ ∃ S' St', o = [.inl (5, fs), .inr (.inl (1280, fx B f W t (sm cc4 key (B 4) (B 5)) 32)), .inr (.inl (64, B)), .inr (.inl (8, key)), .inr (.inl (16, S')), .inr (.inl (16, St'))]) := by
  refine CT.mk (T := t_X5_seal) rfl (Nat.le_of_ble_eq_true rfl) (fun h => ?_)
  repeat refine EV.s rfl rfl rfl ?_
  refine r_sealBout d M f t fs h10 h11 h22 h23 hf ht W B key hb h hD _ (fun S' St' => ?_) 2 0 rfl _ (fx_0 _ _ _ _ _).symm _ rfl none S St
  exact ⟨_, _, rfl, _, ⟨⟨rfl, S', St', rfl⟩, rfl⟩, rfl⟩
end MSL
end
section
theorem i_vc : Claimed_1_1 ∧ Claimed_1_2 := sorry
end
