section
-- ===== PART A: goes FIRST, ahead of the names: the tables' words, and 'selects' of the private methods out of them =====
/-- a private method of a class that the tables say can be made, by its rows of tables_1 -/
def lw_okq (q : MethodName × Nat) : Prop := (q.1.cls ≠ "java/lang/invoke/MethodHandle" ∧ q.1.cls ≠ "java/lang/invoke/VarHandle") ∧ Cond.instantiable q.1.cls q.2 ∈ tables_1 ∧ Cond.privateMethod q.1 ∈ tables_1 ∧ Cond.instanceMethod q.1 ∈ tables_1
theorem lw_p0 : lw_okq (⟨"EnclaveMonitor$Sealer", "derive", "(JI[I)V"⟩, 6) := ⟨⟨by decide +kernel, by decide +kernel⟩, List.mem_of_getElem? (i := 111) (by decide +kernel), List.mem_of_getElem? (i := 119) (by decide +kernel), List.mem_of_getElem? (i := 120) (by decide +kernel)⟩
theorem lw_p1 : lw_okq (⟨"EnclaveMonitor$Hash", "padMessage", "()I"⟩, 4) := ⟨⟨by decide +kernel, by decide +kernel⟩, List.mem_of_getElem? (i := 21) (by decide +kernel), List.mem_of_getElem? (i := 135) (by decide +kernel), List.mem_of_getElem? (i := 136) (by decide +kernel)⟩
theorem lw_p2 : lw_okq (⟨"EnclaveMonitor$Hash", "fillSchedule", "(I)V"⟩, 4) := ⟨⟨by decide +kernel, by decide +kernel⟩, List.mem_of_getElem? (i := 21) (by decide +kernel), List.mem_of_getElem? (i := 145) (by decide +kernel), List.mem_of_getElem? (i := 146) (by decide +kernel)⟩
theorem lw_p3 : lw_okq (⟨"EnclaveMonitor$Hash", "compress", "()V"⟩, 4) := ⟨⟨by decide +kernel, by decide +kernel⟩, List.mem_of_getElem? (i := 21) (by decide +kernel), List.mem_of_getElem? (i := 152) (by decide +kernel), List.mem_of_getElem? (i := 153) (by decide +kernel)⟩
theorem lw_p4 : lw_okq (⟨"EnclaveMonitor", "isOfType", "(II)Z"⟩, 11) := ⟨⟨by decide +kernel, by decide +kernel⟩, List.mem_of_getElem? (i := 13) (by decide +kernel), List.mem_of_getElem? (i := 215) (by decide +kernel), List.mem_of_getElem? (i := 216) (by decide +kernel)⟩
theorem lw_p5 : lw_okq (⟨"EnclaveMonitor", "whyNotAdded", "(II)I"⟩, 11) := ⟨⟨by decide +kernel, by decide +kernel⟩, List.mem_of_getElem? (i := 13) (by decide +kernel), List.mem_of_getElem? (i := 226) (by decide +kernel), List.mem_of_getElem? (i := 227) (by decide +kernel)⟩
theorem lw_p6 : lw_okq (⟨"EnclaveMonitor", "stateOf", "(I)I"⟩, 11) := ⟨⟨by decide +kernel, by decide +kernel⟩, List.mem_of_getElem? (i := 13) (by decide +kernel), List.mem_of_getElem? (i := 230) (by decide +kernel), List.mem_of_getElem? (i := 231) (by decide +kernel)⟩
theorem lw_p7 : lw_okq (⟨"EnclaveMonitor", "extendMeasure", "(LEnclaveMonitor$Page;LEnclaveMonitor$Page;I)V"⟩, 11) := ⟨⟨by decide +kernel, by decide +kernel⟩, List.mem_of_getElem? (i := 13) (by decide +kernel), List.mem_of_getElem? (i := 238) (by decide +kernel), List.mem_of_getElem? (i := 239) (by decide +kernel)⟩
theorem lw_p8 : lw_okq (⟨"EnclaveMonitor", "hasAddress", "(II)Z"⟩, 11) := ⟨⟨by decide +kernel, by decide +kernel⟩, List.mem_of_getElem? (i := 13) (by decide +kernel), List.mem_of_getElem? (i := 254) (by decide +kernel), List.mem_of_getElem? (i := 255) (by decide +kernel)⟩
theorem lw_p9 : lw_okq (⟨"EnclaveMonitor", "isRemovable", "(I)Z"⟩, 11) := ⟨⟨by decide +kernel, by decide +kernel⟩, List.mem_of_getElem? (i := 13) (by decide +kernel), List.mem_of_getElem? (i := 279) (by decide +kernel), List.mem_of_getElem? (i := 280) (by decide +kernel)⟩
theorem lw_p10 : lw_okq (⟨"EnclaveMonitor", "ownedBy", "(I)I"⟩, 11) := ⟨⟨by decide +kernel, by decide +kernel⟩, List.mem_of_getElem? (i := 13) (by decide +kernel), List.mem_of_getElem? (i := 283) (by decide +kernel), List.mem_of_getElem? (i := 284) (by decide +kernel)⟩
theorem lw_p11 : lw_okq (⟨"EnclaveMonitor", "whyNotRun", "(IZI)I"⟩, 11) := ⟨⟨by decide +kernel, by decide +kernel⟩, List.mem_of_getElem? (i := 13) (by decide +kernel), List.mem_of_getElem? (i := 295) (by decide +kernel), List.mem_of_getElem? (i := 296) (by decide +kernel)⟩
theorem lw_p12 : lw_okq (⟨"EnclaveMonitor", "runThread", "(II)I"⟩, 11) := ⟨⟨by decide +kernel, by decide +kernel⟩, List.mem_of_getElem? (i := 13) (by decide +kernel), List.mem_of_getElem? (i := 303) (by decide +kernel), List.mem_of_getElem? (i := 304) (by decide +kernel)⟩
theorem lw_p13 : lw_okq (⟨"EnclaveMonitor$Runner", "step", "([I[I)I"⟩, 5) := ⟨⟨by decide +kernel, by decide +kernel⟩, List.mem_of_getElem? (i := 41) (by decide +kernel), List.mem_of_getElem? (i := 317) (by decide +kernel), List.mem_of_getElem? (i := 318) (by decide +kernel)⟩
theorem lw_p14 : lw_okq (⟨"EnclaveMonitor$Runner", "reach", "(II)LEnclaveMonitor$Page;"⟩, 5) := ⟨⟨by decide +kernel, by decide +kernel⟩, List.mem_of_getElem? (i := 41) (by decide +kernel), List.mem_of_getElem? (i := 321) (by decide +kernel), List.mem_of_getElem? (i := 322) (by decide +kernel)⟩
theorem lw_p15 : lw_okq (⟨"EnclaveMonitor$Runner", "fetch", "([III)Z"⟩, 5) := ⟨⟨by decide +kernel, by decide +kernel⟩, List.mem_of_getElem? (i := 41) (by decide +kernel), List.mem_of_getElem? (i := 328) (by decide +kernel), List.mem_of_getElem? (i := 329) (by decide +kernel)⟩
def lw_privs_1 : List (MethodName × Nat) := [(⟨"EnclaveMonitor$Sealer", "derive", "(JI[I)V"⟩, 6), (⟨"EnclaveMonitor$Hash", "padMessage", "()I"⟩, 4), (⟨"EnclaveMonitor$Hash", "fillSchedule", "(I)V"⟩, 4), (⟨"EnclaveMonitor$Hash", "compress", "()V"⟩, 4), (⟨"EnclaveMonitor", "isOfType", "(II)Z"⟩, 11), (⟨"EnclaveMonitor", "whyNotAdded", "(II)I"⟩, 11), (⟨"EnclaveMonitor", "stateOf", "(I)I"⟩, 11), (⟨"EnclaveMonitor", "extendMeasure", "(LEnclaveMonitor$Page;LEnclaveMonitor$Page;I)V"⟩, 11), (⟨"EnclaveMonitor", "hasAddress", "(II)Z"⟩, 11), (⟨"EnclaveMonitor", "isRemovable", "(I)Z"⟩, 11), (⟨"EnclaveMonitor", "ownedBy", "(I)I"⟩, 11), (⟨"EnclaveMonitor", "whyNotRun", "(IZI)I"⟩, 11), (⟨"EnclaveMonitor", "runThread", "(II)I"⟩, 11), (⟨"EnclaveMonitor$Runner", "step", "([I[I)I"⟩, 5), (⟨"EnclaveMonitor$Runner", "reach", "(II)LEnclaveMonitor$Page;"⟩, 5), (⟨"EnclaveMonitor$Runner", "fetch", "([III)Z"⟩, 5)]
theorem lw_r1 : ∀ q ∈ lw_privs_1, lw_okq q := List.forall_mem_cons.mpr ⟨lw_p0, List.forall_mem_cons.mpr ⟨lw_p1, List.forall_mem_cons.mpr ⟨lw_p2, List.forall_mem_cons.mpr ⟨lw_p3, List.forall_mem_cons.mpr ⟨lw_p4, List.forall_mem_cons.mpr ⟨lw_p5, List.forall_mem_cons.mpr ⟨lw_p6, List.forall_mem_cons.mpr ⟨lw_p7, List.forall_mem_cons.mpr ⟨lw_p8, List.forall_mem_cons.mpr ⟨lw_p9, List.forall_mem_cons.mpr ⟨lw_p10, List.forall_mem_cons.mpr ⟨lw_p11, List.forall_mem_cons.mpr ⟨lw_p12, List.forall_mem_cons.mpr ⟨lw_p13, List.forall_mem_cons.mpr ⟨lw_p14, List.forall_mem_cons.mpr ⟨lw_p15, fun _ h => absurd h List.not_mem_nil⟩⟩⟩⟩⟩⟩⟩⟩⟩⟩⟩⟩⟩⟩⟩⟩
theorem lw_p16 : lw_okq (⟨"EnclaveMonitor$Runner", "store", "(II)Z"⟩, 5) := ⟨⟨by decide +kernel, by decide +kernel⟩, List.mem_of_getElem? (i := 41) (by decide +kernel), List.mem_of_getElem? (i := 332) (by decide +kernel), List.mem_of_getElem? (i := 333) (by decide +kernel)⟩
theorem lw_p17 : lw_okq (⟨"EnclaveMonitor$Runner", "forget", "([I)V"⟩, 5) := ⟨⟨by decide +kernel, by decide +kernel⟩, List.mem_of_getElem? (i := 41) (by decide +kernel), List.mem_of_getElem? (i := 336) (by decide +kernel), List.mem_of_getElem? (i := 337) (by decide +kernel)⟩
theorem lw_p18 : lw_okq (⟨"EnclaveMonitor", "whyNotEvicted", "(III)I"⟩, 11) := ⟨⟨by decide +kernel, by decide +kernel⟩, List.mem_of_getElem? (i := 13) (by decide +kernel), List.mem_of_getElem? (i := 352) (by decide +kernel), List.mem_of_getElem? (i := 353) (by decide +kernel)⟩
theorem lw_p19 : lw_okq (⟨"EnclaveMonitor", "writeBlob", "(LEnclaveMonitor$Page;J)V"⟩, 11) := ⟨⟨by decide +kernel, by decide +kernel⟩, List.mem_of_getElem? (i := 13) (by decide +kernel), List.mem_of_getElem? (i := 365) (by decide +kernel), List.mem_of_getElem? (i := 366) (by decide +kernel)⟩
theorem lw_p20 : lw_okq (⟨"EnclaveMonitor$Sealer", "makeBlock", "(III)V"⟩, 6) := ⟨⟨by decide +kernel, by decide +kernel⟩, List.mem_of_getElem? (i := 111) (by decide +kernel), List.mem_of_getElem? (i := 373) (by decide +kernel), List.mem_of_getElem? (i := 374) (by decide +kernel)⟩
theorem lw_p21 : lw_okq (⟨"EnclaveMonitor$Sealer", "mixQuarter", "(IIII)V"⟩, 6) := ⟨⟨by decide +kernel, by decide +kernel⟩, List.mem_of_getElem? (i := 111) (by decide +kernel), List.mem_of_getElem? (i := 380) (by decide +kernel), List.mem_of_getElem? (i := 381) (by decide +kernel)⟩
theorem lw_p22 : lw_okq (⟨"EnclaveMonitor$Sealer", "beginWithMark", "(I)V"⟩, 6) := ⟨⟨by decide +kernel, by decide +kernel⟩, List.mem_of_getElem? (i := 111) (by decide +kernel), List.mem_of_getElem? (i := 392) (by decide +kernel), List.mem_of_getElem? (i := 393) (by decide +kernel)⟩
theorem lw_p23 : lw_okq (⟨"EnclaveMonitor", "whyNotReloaded", "(IIII)I"⟩, 11) := ⟨⟨by decide +kernel, by decide +kernel⟩, List.mem_of_getElem? (i := 13) (by decide +kernel), List.mem_of_getElem? (i := 406) (by decide +kernel), List.mem_of_getElem? (i := 407) (by decide +kernel)⟩
theorem lw_p24 : lw_okq (⟨"EnclaveMonitor", "isTagged", "()Z"⟩, 11) := ⟨⟨by decide +kernel, by decide +kernel⟩, List.mem_of_getElem? (i := 13) (by decide +kernel), List.mem_of_getElem? (i := 410) (by decide +kernel), List.mem_of_getElem? (i := 411) (by decide +kernel)⟩
theorem lw_p25 : lw_okq (⟨"EnclaveMonitor", "readBlob", "(LEnclaveMonitor$Page;I)V"⟩, 11) := ⟨⟨by decide +kernel, by decide +kernel⟩, List.mem_of_getElem? (i := 13) (by decide +kernel), List.mem_of_getElem? (i := 415) (by decide +kernel), List.mem_of_getElem? (i := 416) (by decide +kernel)⟩
theorem lw_p26 : lw_okq (⟨"EnclaveMonitor", "pagesOfType", "(I)I"⟩, 11) := ⟨⟨by decide +kernel, by decide +kernel⟩, List.mem_of_getElem? (i := 13) (by decide +kernel), List.mem_of_getElem? (i := 435) (by decide +kernel), List.mem_of_getElem? (i := 436) (by decide +kernel)⟩
theorem lw_p27 : lw_okq (⟨"java/lang/Throwable", "fillInStackTrace", "(I)Ljava/lang/Throwable;"⟩, 6) := ⟨⟨by decide +kernel, by decide +kernel⟩, List.mem_of_getElem? (i := 486) (by decide +kernel), List.mem_of_getElem? (i := 484) (by decide +kernel), List.mem_of_getElem? (i := 485) (by decide +kernel)⟩
theorem lw_p28 : lw_okq (⟨"EnclaveMonitorModel", "digest", "(I)V"⟩, 30) := ⟨⟨by decide +kernel, by decide +kernel⟩, List.mem_of_getElem? (i := 523) (by decide +kernel), List.mem_of_getElem? (i := 529) (by decide +kernel), List.mem_of_getElem? (i := 530) (by decide +kernel)⟩
theorem lw_p29 : lw_okq (⟨"EnclaveMonitorModel", "block", "(I)V"⟩, 30) := ⟨⟨by decide +kernel, by decide +kernel⟩, List.mem_of_getElem? (i := 523) (by decide +kernel), List.mem_of_getElem? (i := 536) (by decide +kernel), List.mem_of_getElem? (i := 537) (by decide +kernel)⟩
theorem lw_p30 : lw_okq (⟨"EnclaveMonitorModel", "isOf", "(II)Z"⟩, 30) := ⟨⟨by decide +kernel, by decide +kernel⟩, List.mem_of_getElem? (i := 523) (by decide +kernel), List.mem_of_getElem? (i := 652) (by decide +kernel), List.mem_of_getElem? (i := 653) (by decide +kernel)⟩
theorem lw_p31 : lw_okq (⟨"EnclaveMonitorModel", "becomes", "(II)V"⟩, 30) := ⟨⟨by decide +kernel, by decide +kernel⟩, List.mem_of_getElem? (i := 523) (by decide +kernel), List.mem_of_getElem? (i := 656) (by decide +kernel), List.mem_of_getElem? (i := 657) (by decide +kernel)⟩
def lw_privs_2 : List (MethodName × Nat) := [(⟨"EnclaveMonitor$Runner", "store", "(II)Z"⟩, 5), (⟨"EnclaveMonitor$Runner", "forget", "([I)V"⟩, 5), (⟨"EnclaveMonitor", "whyNotEvicted", "(III)I"⟩, 11), (⟨"EnclaveMonitor", "writeBlob", "(LEnclaveMonitor$Page;J)V"⟩, 11), (⟨"EnclaveMonitor$Sealer", "makeBlock", "(III)V"⟩, 6), (⟨"EnclaveMonitor$Sealer", "mixQuarter", "(IIII)V"⟩, 6), (⟨"EnclaveMonitor$Sealer", "beginWithMark", "(I)V"⟩, 6), (⟨"EnclaveMonitor", "whyNotReloaded", "(IIII)I"⟩, 11), (⟨"EnclaveMonitor", "isTagged", "()Z"⟩, 11), (⟨"EnclaveMonitor", "readBlob", "(LEnclaveMonitor$Page;I)V"⟩, 11), (⟨"EnclaveMonitor", "pagesOfType", "(I)I"⟩, 11), (⟨"java/lang/Throwable", "fillInStackTrace", "(I)Ljava/lang/Throwable;"⟩, 6), (⟨"EnclaveMonitorModel", "digest", "(I)V"⟩, 30), (⟨"EnclaveMonitorModel", "block", "(I)V"⟩, 30), (⟨"EnclaveMonitorModel", "isOf", "(II)Z"⟩, 30), (⟨"EnclaveMonitorModel", "becomes", "(II)V"⟩, 30)]
theorem lw_r2 : ∀ q ∈ lw_privs_2, lw_okq q := List.forall_mem_cons.mpr ⟨lw_p16, List.forall_mem_cons.mpr ⟨lw_p17, List.forall_mem_cons.mpr ⟨lw_p18, List.forall_mem_cons.mpr ⟨lw_p19, List.forall_mem_cons.mpr ⟨lw_p20, List.forall_mem_cons.mpr ⟨lw_p21, List.forall_mem_cons.mpr ⟨lw_p22, List.forall_mem_cons.mpr ⟨lw_p23, List.forall_mem_cons.mpr ⟨lw_p24, List.forall_mem_cons.mpr ⟨lw_p25, List.forall_mem_cons.mpr ⟨lw_p26, List.forall_mem_cons.mpr ⟨lw_p27, List.forall_mem_cons.mpr ⟨lw_p28, List.forall_mem_cons.mpr ⟨lw_p29, List.forall_mem_cons.mpr ⟨lw_p30, List.forall_mem_cons.mpr ⟨lw_p31, fun _ h => absurd h List.not_mem_nil⟩⟩⟩⟩⟩⟩⟩⟩⟩⟩⟩⟩⟩⟩⟩⟩
theorem lw_p32 : lw_okq (⟨"EnclaveMonitorModel", "measured", "(III)V"⟩, 30) := ⟨⟨by decide +kernel, by decide +kernel⟩, List.mem_of_getElem? (i := 523) (by decide +kernel), List.mem_of_getElem? (i := 664) (by decide +kernel), List.mem_of_getElem? (i := 665) (by decide +kernel)⟩
theorem lw_p33 : lw_okq (⟨"EnclaveMonitorModel", "at", "(II)I"⟩, 30) := ⟨⟨by decide +kernel, by decide +kernel⟩, List.mem_of_getElem? (i := 523) (by decide +kernel), List.mem_of_getElem? (i := 672) (by decide +kernel), List.mem_of_getElem? (i := 673) (by decide +kernel)⟩
theorem lw_p34 : lw_okq (⟨"EnclaveMonitorModel", "owned", "(I)I"⟩, 30) := ⟨⟨by decide +kernel, by decide +kernel⟩, List.mem_of_getElem? (i := 523) (by decide +kernel), List.mem_of_getElem? (i := 692) (by decide +kernel), List.mem_of_getElem? (i := 693) (by decide +kernel)⟩
theorem lw_p35 : lw_okq (⟨"EnclaveMonitorModel", "run", "(II)I"⟩, 30) := ⟨⟨by decide +kernel, by decide +kernel⟩, List.mem_of_getElem? (i := 523) (by decide +kernel), List.mem_of_getElem? (i := 700) (by decide +kernel), List.mem_of_getElem? (i := 701) (by decide +kernel)⟩
theorem lw_p36 : lw_okq (⟨"EnclaveMonitorModel", "step", "(I)V"⟩, 30) := ⟨⟨by decide +kernel, by decide +kernel⟩, List.mem_of_getElem? (i := 523) (by decide +kernel), List.mem_of_getElem? (i := 704) (by decide +kernel), List.mem_of_getElem? (i := 705) (by decide +kernel)⟩
theorem lw_p37 : lw_okq (⟨"EnclaveMonitorModel", "reach", "(III)I"⟩, 30) := ⟨⟨by decide +kernel, by decide +kernel⟩, List.mem_of_getElem? (i := 523) (by decide +kernel), List.mem_of_getElem? (i := 708) (by decide +kernel), List.mem_of_getElem? (i := 709) (by decide +kernel)⟩
theorem lw_p38 : lw_okq (⟨"EnclaveMonitorModel", "inSlot", "(II)J"⟩, 30) := ⟨⟨by decide +kernel, by decide +kernel⟩, List.mem_of_getElem? (i := 523) (by decide +kernel), List.mem_of_getElem? (i := 724) (by decide +kernel), List.mem_of_getElem? (i := 725) (by decide +kernel)⟩
theorem lw_p39 : lw_okq (⟨"EnclaveMonitorModel", "seal", "([II[II)V"⟩, 30) := ⟨⟨by decide +kernel, by decide +kernel⟩, List.mem_of_getElem? (i := 523) (by decide +kernel), List.mem_of_getElem? (i := 729) (by decide +kernel), List.mem_of_getElem? (i := 730) (by decide +kernel)⟩
theorem lw_p40 : lw_okq (⟨"EnclaveMonitorModel", "stream", "(III)V"⟩, 30) := ⟨⟨by decide +kernel, by decide +kernel⟩, List.mem_of_getElem? (i := 523) (by decide +kernel), List.mem_of_getElem? (i := 733) (by decide +kernel), List.mem_of_getElem? (i := 734) (by decide +kernel)⟩
theorem lw_p41 : lw_okq (⟨"EnclaveMonitorModel", "quarter", "(IIII)V"⟩, 30) := ⟨⟨by decide +kernel, by decide +kernel⟩, List.mem_of_getElem? (i := 523) (by decide +kernel), List.mem_of_getElem? (i := 741) (by decide +kernel), List.mem_of_getElem? (i := 742) (by decide +kernel)⟩
theorem lw_p42 : lw_okq (⟨"EnclaveMonitorModel", "tag", "()V"⟩, 30) := ⟨⟨by decide +kernel, by decide +kernel⟩, List.mem_of_getElem? (i := 523) (by decide +kernel), List.mem_of_getElem? (i := 745) (by decide +kernel), List.mem_of_getElem? (i := 746) (by decide +kernel)⟩
theorem lw_p43 : lw_okq (⟨"EnclaveMonitorModel", "setSlot", "(IIJ)V"⟩, 30) := ⟨⟨by decide +kernel, by decide +kernel⟩, List.mem_of_getElem? (i := 523) (by decide +kernel), List.mem_of_getElem? (i := 751) (by decide +kernel), List.mem_of_getElem? (i := 752) (by decide +kernel)⟩
def lw_privs_3 : List (MethodName × Nat) := [(⟨"EnclaveMonitorModel", "measured", "(III)V"⟩, 30), (⟨"EnclaveMonitorModel", "at", "(II)I"⟩, 30), (⟨"EnclaveMonitorModel", "owned", "(I)I"⟩, 30), (⟨"EnclaveMonitorModel", "run", "(II)I"⟩, 30), (⟨"EnclaveMonitorModel", "step", "(I)V"⟩, 30), (⟨"EnclaveMonitorModel", "reach", "(III)I"⟩, 30), (⟨"EnclaveMonitorModel", "inSlot", "(II)J"⟩, 30), (⟨"EnclaveMonitorModel", "seal", "([II[II)V"⟩, 30), (⟨"EnclaveMonitorModel", "stream", "(III)V"⟩, 30), (⟨"EnclaveMonitorModel", "quarter", "(IIII)V"⟩, 30), (⟨"EnclaveMonitorModel", "tag", "()V"⟩, 30), (⟨"EnclaveMonitorModel", "setSlot", "(IIJ)V"⟩, 30)]
theorem lw_r3 : ∀ q ∈ lw_privs_3, lw_okq q := List.forall_mem_cons.mpr ⟨lw_p32, List.forall_mem_cons.mpr ⟨lw_p33, List.forall_mem_cons.mpr ⟨lw_p34, List.forall_mem_cons.mpr ⟨lw_p35, List.forall_mem_cons.mpr ⟨lw_p36, List.forall_mem_cons.mpr ⟨lw_p37, List.forall_mem_cons.mpr ⟨lw_p38, List.forall_mem_cons.mpr ⟨lw_p39, List.forall_mem_cons.mpr ⟨lw_p40, List.forall_mem_cons.mpr ⟨lw_p41, List.forall_mem_cons.mpr ⟨lw_p42, List.forall_mem_cons.mpr ⟨lw_p43, fun _ h => absurd h List.not_mem_nil⟩⟩⟩⟩⟩⟩⟩⟩⟩⟩⟩⟩
def lw_privs : List (MethodName × Nat) := lw_privs_1 ++ (lw_privs_2 ++ (lw_privs_3))
def lw_tbl : List Cond := k2_sels lw_privs ++ tables_1
theorem lw_privs_ok : ∀ q ∈ lw_privs, lw_okq q := by
  show ∀ q ∈ lw_privs_1 ++ (lw_privs_2 ++ (lw_privs_3)), lw_okq q
  exact List.forall_mem_append.mpr ⟨lw_r1, List.forall_mem_append.mpr ⟨lw_r2, lw_r3⟩⟩
def RX0 : String := "EnclaveMonitor$Hash"
def TX0 : u_T := fun k => match k with
  | 0 => ("EnclaveMonitor$Hash", "message", "[I", true)
  | 1 => ("EnclaveMonitor$Hash", "schedule", "[I", true)
  | 2 => ("EnclaveMonitor$Hash", "state", "[I", true)
  | _ => ("EnclaveMonitor$Hash", "length", "I", false)
def tyX0 : Nat → FieldType := fun k => match k with
  | 0 => .array .int
  | 1 => .array .int
  | 2 => .array .int
  | _ => .int
abbrev wsX00 : List Cond := u_ws RX0 TX0 4
theorem nmX0 : ∀ a, a < 4 → ∀ b, b < 4 → a ≠ b → (TX0 a).2.1 ≠ (TX0 b).2.1 := by decide +kernel
theorem tyX0_ok : ∀ k, k < 4 → parseFieldDescriptor (TX0 k).2.2.1 = some (tyX0 k) := by decide +kernel
abbrev cX0_init : ByteArray := prog_2_method_1_code
def yX0_init : MethodName := ⟨RX0, "<init>", "()V"⟩
abbrev cX0_begin : ByteArray := prog_2_method_2_code
def yX0_begin : MethodName := ⟨RX0, "begin", "()V"⟩
abbrev cX0_add : ByteArray := prog_2_method_3_code
def yX0_add : MethodName := ⟨RX0, "add", "(I)V"⟩
abbrev cX0_addAll : ByteArray := prog_2_method_4_code
def yX0_addAll : MethodName := ⟨RX0, "addAll", "([II)V"⟩
abbrev cX0_finish : ByteArray := prog_2_method_5_code
def yX0_finish : MethodName := ⟨RX0, "finish", "([II)V"⟩
abbrev cX0_padMessage : ByteArray := prog_2_method_6_code
def yX0_padMessage : MethodName := ⟨RX0, "padMessage", "()I"⟩
abbrev cX0_fillSchedule : ByteArray := prog_2_method_7_code
def yX0_fillSchedule : MethodName := ⟨RX0, "fillSchedule", "(I)V"⟩
abbrev cX0_compress : ByteArray := prog_2_method_8_code
def yX0_compress : MethodName := ⟨RX0, "compress", "()V"⟩
abbrev cX0_turnRight : ByteArray := prog_2_method_9_code
def yX0_turnRight : MethodName := ⟨RX0, "turnRight", "(II)I"⟩
def RX1 : String := "EnclaveMonitor$Page"
def TX1 : u_T := fun k => match k with
  | 0 => ("EnclaveMonitor$Page", "words", "[I", true)
  | 1 => ("EnclaveMonitor$Page", "measured", "[I", true)
  | 2 => ("EnclaveMonitor$Page", "type", "I", false)
  | 3 => ("EnclaveMonitor$Page", "owner", "I", false)
  | 4 => ("EnclaveMonitor$Page", "address", "I", false)
  | 5 => ("EnclaveMonitor$Page", "rights", "I", false)
  | 6 => ("EnclaveMonitor$Page", "ident", "I", false)
  | _ => ("EnclaveMonitor$Page", "state", "I", false)
def tyX1 : Nat → FieldType := fun k => match k with
  | 0 => .array .int
  | 1 => .array .int
  | 2 => .int
  | 3 => .int
  | 4 => .int
  | 5 => .int
  | 6 => .int
  | _ => .int
abbrev wsX10 : List Cond := u_ws RX1 TX1 8
theorem nmX1 : ∀ a, a < 8 → ∀ b, b < 8 → a ≠ b → (TX1 a).2.1 ≠ (TX1 b).2.1 := by decide +kernel
theorem tyX1_ok : ∀ k, k < 8 → parseFieldDescriptor (TX1 k).2.2.1 = some (tyX1 k) := by decide +kernel
abbrev cX1_init : ByteArray := prog_3_method_1_code
def yX1_init : MethodName := ⟨RX1, "<init>", "()V"⟩
abbrev cX1_own : ByteArray := prog_3_method_2_code
def yX1_own : MethodName := ⟨RX1, "own", "(II)V"⟩
abbrev cX1_clear : ByteArray := prog_3_method_3_code
def yX1_clear : MethodName := ⟨RX1, "clear", "()V"⟩
abbrev cX1_isSaved : ByteArray := prog_3_method_4_code
def yX1_isSaved : MethodName := ⟨RX1, "isSaved", "()Z"⟩
abbrev cX1_isDataOf : ByteArray := prog_3_method_5_code
def yX1_isDataOf : MethodName := ⟨RX1, "isDataOf", "(I)Z"⟩
abbrev cX1_numberIn : ByteArray := prog_3_method_6_code
def yX1_numberIn : MethodName := ⟨RX1, "numberIn", "(I)J"⟩
abbrev cX1_setNumber : ByteArray := prog_3_method_7_code
def yX1_setNumber : MethodName := ⟨RX1, "setNumber", "(IJ)V"⟩
abbrev cX1_join : ByteArray := prog_3_method_8_code
def yX1_join : MethodName := ⟨RX1, "join", "(II)J"⟩
def RX2 : String := "EnclaveMonitor$Runner"
def TX2 : u_T := fun k => match k with
  | 0 => ("EnclaveMonitor$Runner", "space", "[LEnclaveMonitor$Page;", true)
  | 1 => ("EnclaveMonitor$Runner", "outcome", "I", false)
  | 2 => ("EnclaveMonitor$Runner", "result", "I", false)
  | 3 => ("EnclaveMonitor$Runner", "faulty", "I", false)
  | _ => ("EnclaveMonitor$Runner", "made", "I", false)
def tyX2 : Nat → FieldType := fun k => match k with
  | 0 => .array (.object "EnclaveMonitor$Page")
  | 1 => .int
  | 2 => .int
  | 3 => .int
  | _ => .int
abbrev wsX20 : List Cond := u_ws RX2 TX2 5
theorem nmX2 : ∀ a, a < 5 → ∀ b, b < 5 → a ≠ b → (TX2 a).2.1 ≠ (TX2 b).2.1 := by decide +kernel
theorem tyX2_ok : ∀ k, k < 5 → parseFieldDescriptor (TX2 k).2.2.1 = some (tyX2 k) := by decide +kernel
abbrev cX2_init : ByteArray := prog_4_method_1_code
def yX2_init : MethodName := ⟨RX2, "<init>", "()V"⟩
abbrev cX2_mapSpace : ByteArray := prog_4_method_2_code
def yX2_mapSpace : MethodName := ⟨RX2, "mapSpace", "([LEnclaveMonitor$Page;I)V"⟩
abbrev cX2_go : ByteArray := prog_4_method_3_code
def yX2_go : MethodName := ⟨RX2, "go", "([I[II)V"⟩
abbrev cX2_forget : ByteArray := prog_4_method_4_code
def yX2_forget : MethodName := ⟨RX2, "forget", "([I)V"⟩
abbrev cX2_step : ByteArray := prog_4_method_5_code
def yX2_step : MethodName := ⟨RX2, "step", "([I[I)I"⟩
abbrev cX2_register : ByteArray := prog_4_method_6_code
def yX2_register : MethodName := ⟨RX2, "register", "(I)I"⟩
abbrev cX2_fetch : ByteArray := prog_4_method_7_code
def yX2_fetch : MethodName := ⟨RX2, "fetch", "([III)Z"⟩
abbrev cX2_store : ByteArray := prog_4_method_8_code
def yX2_store : MethodName := ⟨RX2, "store", "(II)Z"⟩
abbrev cX2_reach : ByteArray := prog_4_method_9_code
def yX2_reach : MethodName := ⟨RX2, "reach", "(II)LEnclaveMonitor$Page;"⟩
def RX3 : String := "EnclaveMonitor$Sealer"
def TX3 : u_T := fun k => match k with
  | 0 => ("EnclaveMonitor$Sealer", "hash", "LEnclaveMonitor$Hash;", true)
  | 1 => ("EnclaveMonitor$Sealer", "key", "[I", true)
  | 2 => ("EnclaveMonitor$Sealer", "mark", "[I", true)
  | 3 => ("EnclaveMonitor$Sealer", "inner", "[I", true)
  | 4 => ("EnclaveMonitor$Sealer", "start", "[I", true)
  | _ => ("EnclaveMonitor$Sealer", "block", "[I", true)
def tyX3 : Nat → FieldType := fun k => match k with
  | 0 => .object "EnclaveMonitor$Hash"
  | 1 => .array .int
  | 2 => .array .int
  | 3 => .array .int
  | 4 => .array .int
  | _ => .array .int
abbrev wsX30 : List Cond := u_ws RX3 TX3 6
theorem nmX3 : ∀ a, a < 6 → ∀ b, b < 6 → a ≠ b → (TX3 a).2.1 ≠ (TX3 b).2.1 := by decide +kernel
theorem tyX3_ok : ∀ k, k < 6 → parseFieldDescriptor (TX3 k).2.2.1 = some (tyX3 k) := by decide +kernel
abbrev cX3_init : ByteArray := prog_5_method_1_code
def yX3_init : MethodName := ⟨RX3, "<init>", "(J)V"⟩
abbrev cX3_derive : ByteArray := prog_5_method_2_code
def yX3_derive : MethodName := ⟨RX3, "derive", "(JI[I)V"⟩
abbrev cX3_sign : ByteArray := prog_5_method_3_code
def yX3_sign : MethodName := ⟨RX3, "sign", "([II[II)V"⟩
abbrev cX3_beginWithMark : ByteArray := prog_5_method_4_code
def yX3_beginWithMark : MethodName := ⟨RX3, "beginWithMark", "(I)V"⟩
abbrev cX3_cover : ByteArray := prog_5_method_5_code
def yX3_cover : MethodName := ⟨RX3, "cover", "([IIII)V"⟩
abbrev cX3_makeBlock : ByteArray := prog_5_method_6_code
def yX3_makeBlock : MethodName := ⟨RX3, "makeBlock", "(III)V"⟩
abbrev cX3_mixQuarter : ByteArray := prog_5_method_7_code
def yX3_mixQuarter : MethodName := ⟨RX3, "mixQuarter", "(IIII)V"⟩
abbrev cX3_turnLeft : ByteArray := prog_5_method_8_code
def yX3_turnLeft : MethodName := ⟨RX3, "turnLeft", "(II)I"⟩
def RX4 : String := "EnclaveMonitor"
def TX4 : u_T := fun k => match k with
  | 0 => ("EnclaveMonitor", "pages", "[LEnclaveMonitor$Page;", true)
  | 1 => ("EnclaveMonitor", "shared", "[I", true)
  | 2 => ("EnclaveMonitor", "dueTag", "[I", true)
  | 3 => ("EnclaveMonitor", "hash", "LEnclaveMonitor$Hash;", true)
  | 4 => ("EnclaveMonitor", "sealer", "LEnclaveMonitor$Sealer;", true)
  | 5 => ("EnclaveMonitor", "runner", "LEnclaveMonitor$Runner;", true)
  | 6 => ("EnclaveMonitor", "lettingGoes", "J", false)
  | 7 => ("EnclaveMonitor", "takingsBack", "I", false)
  | 8 => ("EnclaveMonitor", "wrongTags", "I", false)
  | 9 => ("EnclaveMonitor", "wrongVersions", "I", false)
  | _ => ("EnclaveMonitor", "enclavesCreated", "I", false)
def tyX4 : Nat → FieldType := fun k => match k with
  | 0 => .array (.object "EnclaveMonitor$Page")
  | 1 => .array .int
  | 2 => .array .int
  | 3 => .object "EnclaveMonitor$Hash"
  | 4 => .object "EnclaveMonitor$Sealer"
  | 5 => .object "EnclaveMonitor$Runner"
  | 6 => .long
  | 7 => .int
  | 8 => .int
  | 9 => .int
  | _ => .int
abbrev wsX40 : List Cond := u_ws RX4 TX4 11
theorem nmX4 : ∀ a, a < 11 → ∀ b, b < 11 → a ≠ b → (TX4 a).2.1 ≠ (TX4 b).2.1 := by decide +kernel
theorem tyX4_ok : ∀ k, k < 11 → parseFieldDescriptor (TX4 k).2.2.1 = some (tyX4 k) := by decide +kernel
abbrev cX4_init : ByteArray := prog_1_method_1_code
def yX4_init : MethodName := ⟨RX4, "<init>", "(IJ)V"⟩
abbrev cX4_poke : ByteArray := prog_1_method_2_code
def yX4_poke : MethodName := ⟨RX4, "poke", "(II)V"⟩
abbrev cX4_buffer : ByteArray := prog_1_method_3_code
def yX4_buffer : MethodName := ⟨RX4, "buffer", "(I)I"⟩
abbrev cX4_create : ByteArray := prog_1_method_4_code
def yX4_create : MethodName := ⟨RX4, "create", "(I)I"⟩
abbrev cX4_thread : ByteArray := prog_1_method_5_code
def yX4_thread : MethodName := ⟨RX4, "thread", "(III)I"⟩
abbrev cX4_data : ByteArray := prog_1_method_6_code
def yX4_data : MethodName := ⟨RX4, "data", "(IIII)I"⟩
abbrev cX4_versions : ByteArray := prog_1_method_7_code
def yX4_versions : MethodName := ⟨RX4, "versions", "(I)I"⟩
abbrev cX4_finalise : ByteArray := prog_1_method_8_code
def yX4_finalise : MethodName := ⟨RX4, "finalise", "(I)I"⟩
abbrev cX4_stop : ByteArray := prog_1_method_9_code
def yX4_stop : MethodName := ⟨RX4, "stop", "(I)I"⟩
abbrev cX4_remove : ByteArray := prog_1_method_10_code
def yX4_remove : MethodName := ⟨RX4, "remove", "(I)I"⟩
abbrev cX4_enter : ByteArray := prog_1_method_11_code
def yX4_enter : MethodName := ⟨RX4, "enter", "(IIII)I"⟩
abbrev cX4_resume : ByteArray := prog_1_method_12_code
def yX4_resume : MethodName := ⟨RX4, "resume", "(II)I"⟩
abbrev cX4_told : ByteArray := prog_1_method_13_code
def yX4_told : MethodName := ⟨RX4, "told", "(I)I"⟩
abbrev cX4_evict : ByteArray := prog_1_method_14_code
def yX4_evict : MethodName := ⟨RX4, "evict", "(III)I"⟩
abbrev cX4_reload : ByteArray := prog_1_method_15_code
def yX4_reload : MethodName := ⟨RX4, "reload", "(IIII)I"⟩
abbrev cX4_page : ByteArray := prog_1_method_16_code
def yX4_page : MethodName := ⟨RX4, "page", "(II)I"⟩
abbrev cX4_measure : ByteArray := prog_1_method_17_code
def yX4_measure : MethodName := ⟨RX4, "measure", "(II)I"⟩
abbrev cX4_slot : ByteArray := prog_1_method_18_code
def yX4_slot : MethodName := ⟨RX4, "slot", "(II)J"⟩
abbrev cX4_count : ByteArray := prog_1_method_19_code
def yX4_count : MethodName := ⟨RX4, "count", "(I)I"⟩
abbrev cX4_isWithin : ByteArray := prog_1_method_20_code
def yX4_isWithin : MethodName := ⟨RX4, "isWithin", "(II)Z"⟩
abbrev cX4_isOfType : ByteArray := prog_1_method_21_code
def yX4_isOfType : MethodName := ⟨RX4, "isOfType", "(II)Z"⟩
abbrev cX4_stateOf : ByteArray := prog_1_method_22_code
def yX4_stateOf : MethodName := ⟨RX4, "stateOf", "(I)I"⟩
abbrev cX4_pagesOfType : ByteArray := prog_1_method_23_code
def yX4_pagesOfType : MethodName := ⟨RX4, "pagesOfType", "(I)I"⟩
abbrev cX4_ownedBy : ByteArray := prog_1_method_24_code
def yX4_ownedBy : MethodName := ⟨RX4, "ownedBy", "(I)I"⟩
abbrev cX4_hasAddress : ByteArray := prog_1_method_25_code
def yX4_hasAddress : MethodName := ⟨RX4, "hasAddress", "(II)Z"⟩
abbrev cX4_whyNotAdded : ByteArray := prog_1_method_26_code
def yX4_whyNotAdded : MethodName := ⟨RX4, "whyNotAdded", "(II)I"⟩
abbrev cX4_extendMeasure : ByteArray := prog_1_method_27_code
def yX4_extendMeasure : MethodName := ⟨RX4, "extendMeasure", "(LEnclaveMonitor$Page;LEnclaveMonitor$Page;I)V"⟩
abbrev cX4_isRemovable : ByteArray := prog_1_method_28_code
def yX4_isRemovable : MethodName := ⟨RX4, "isRemovable", "(I)Z"⟩
abbrev cX4_whyNotRun : ByteArray := prog_1_method_29_code
def yX4_whyNotRun : MethodName := ⟨RX4, "whyNotRun", "(IZI)I"⟩
abbrev cX4_runThread : ByteArray := prog_1_method_30_code
def yX4_runThread : MethodName := ⟨RX4, "runThread", "(II)I"⟩
abbrev cX4_whyNotEvicted : ByteArray := prog_1_method_31_code
def yX4_whyNotEvicted : MethodName := ⟨RX4, "whyNotEvicted", "(III)I"⟩
abbrev cX4_whyNotReloaded : ByteArray := prog_1_method_32_code
def yX4_whyNotReloaded : MethodName := ⟨RX4, "whyNotReloaded", "(IIII)I"⟩
abbrev cX4_isTagged : ByteArray := prog_1_method_33_code
def yX4_isTagged : MethodName := ⟨RX4, "isTagged", "()Z"⟩
abbrev cX4_writeBlob : ByteArray := prog_1_method_34_code
def yX4_writeBlob : MethodName := ⟨RX4, "writeBlob", "(LEnclaveMonitor$Page;J)V"⟩
abbrev cX4_readBlob : ByteArray := prog_1_method_35_code
def yX4_readBlob : MethodName := ⟨RX4, "readBlob", "(LEnclaveMonitor$Page;I)V"⟩
def RX5 : String := "EnclaveMonitorModel"
def TX5 : u_T := fun k => match k with
  | 0 => ("EnclaveMonitorModel", "thrown", "I", false)
  | 1 => ("EnclaveMonitorModel", "many", "I", true)
  | 2 => ("EnclaveMonitorModel", "type", "[I", true)
  | 3 => ("EnclaveMonitorModel", "owner", "[I", true)
  | 4 => ("EnclaveMonitorModel", "address", "[I", true)
  | 5 => ("EnclaveMonitorModel", "rights", "[I", true)
  | 6 => ("EnclaveMonitorModel", "ident", "[I", true)
  | 7 => ("EnclaveMonitorModel", "state", "[I", true)
  | 8 => ("EnclaveMonitorModel", "words", "[I", true)
  | 9 => ("EnclaveMonitorModel", "measures", "[I", true)
  | 10 => ("EnclaveMonitorModel", "buffer", "[I", true)
  | 11 => ("EnclaveMonitorModel", "key", "[I", true)
  | 12 => ("EnclaveMonitorModel", "mark", "[I", true)
  | 13 => ("EnclaveMonitorModel", "idents", "I", false)
  | 14 => ("EnclaveMonitorModel", "tags", "I", false)
  | 15 => ("EnclaveMonitorModel", "wrongs", "I", false)
  | 16 => ("EnclaveMonitorModel", "taken", "I", false)
  | 17 => ("EnclaveMonitorModel", "letGo", "J", false)
  | 18 => ("EnclaveMonitorModel", "message", "[I", true)
  | 19 => ("EnclaveMonitorModel", "hash", "[I", true)
  | 20 => ("EnclaveMonitorModel", "wide", "[I", true)
  | 21 => ("EnclaveMonitorModel", "turn", "[I", true)
  | 22 => ("EnclaveMonitorModel", "start", "[I", true)
  | 23 => ("EnclaveMonitorModel", "stream", "[I", true)
  | 24 => ("EnclaveMonitorModel", "\x72", "[I", true)
  | 25 => ("EnclaveMonitorModel", "pc", "I", false)
  | 26 => ("EnclaveMonitorModel", "made", "I", false)
  | 27 => ("EnclaveMonitorModel", "ended", "I", false)
  | 28 => ("EnclaveMonitorModel", "gave", "I", false)
  | _ => ("EnclaveMonitorModel", "faulted", "I", false)
def tyX5 : Nat → FieldType := fun k => match k with
  | 0 => .int
  | 1 => .int
  | 2 => .array .int
  | 3 => .array .int
  | 4 => .array .int
  | 5 => .array .int
  | 6 => .array .int
  | 7 => .array .int
  | 8 => .array .int
  | 9 => .array .int
  | 10 => .array .int
  | 11 => .array .int
  | 12 => .array .int
  | 13 => .int
  | 14 => .int
  | 15 => .int
  | 16 => .int
  | 17 => .long
  | 18 => .array .int
  | 19 => .array .int
  | 20 => .array .int
  | 21 => .array .int
  | 22 => .array .int
  | 23 => .array .int
  | 24 => .array .int
  | 25 => .int
  | 26 => .int
  | 27 => .int
  | 28 => .int
  | _ => .int
abbrev wsX50 : List Cond := u_ws RX5 TX5 30
theorem nmX5 : ∀ a, a < 30 → ∀ b, b < 30 → a ≠ b → (TX5 a).2.1 ≠ (TX5 b).2.1 := by decide +kernel
theorem tyX5_ok : ∀ k, k < 30 → parseFieldDescriptor (TX5 k).2.2.1 = some (tyX5 k) := by decide +kernel
abbrev cX5_init : ByteArray := prog_7_method_1_code
def yX5_init : MethodName := ⟨RX5, "<init>", "(IJ)V"⟩
abbrev cX5_thrown : ByteArray := prog_7_method_2_code
def yX5_thrown : MethodName := ⟨RX5, "thrown", "()I"⟩
abbrev cX5_right : ByteArray := prog_7_method_3_code
def yX5_right : MethodName := ⟨RX5, "right", "(II)I"⟩
abbrev cX5_digest : ByteArray := prog_7_method_4_code
def yX5_digest : MethodName := ⟨RX5, "digest", "(I)V"⟩
abbrev cX5_block : ByteArray := prog_7_method_5_code
def yX5_block : MethodName := ⟨RX5, "block", "(I)V"⟩
abbrev cX5_tag : ByteArray := prog_7_method_6_code
def yX5_tag : MethodName := ⟨RX5, "tag", "()V"⟩
abbrev cX5_quarter : ByteArray := prog_7_method_7_code
def yX5_quarter : MethodName := ⟨RX5, "quarter", "(IIII)V"⟩
abbrev cX5_stream : ByteArray := prog_7_method_8_code
def yX5_stream : MethodName := ⟨RX5, "stream", "(III)V"⟩
abbrev cX5_seal : ByteArray := prog_7_method_9_code
def yX5_seal : MethodName := ⟨RX5, "seal", "([II[II)V"⟩
abbrev cX5_isOf : ByteArray := prog_7_method_10_code
def yX5_isOf : MethodName := ⟨RX5, "isOf", "(II)Z"⟩
abbrev cX5_owned : ByteArray := prog_7_method_11_code
def yX5_owned : MethodName := ⟨RX5, "owned", "(I)I"⟩
abbrev cX5_becomes : ByteArray := prog_7_method_12_code
def yX5_becomes : MethodName := ⟨RX5, "becomes", "(II)V"⟩
abbrev cX5_poke : ByteArray := prog_7_method_13_code
def yX5_poke : MethodName := ⟨RX5, "poke", "(II)V"⟩
abbrev cX5_buffer : ByteArray := prog_7_method_14_code
def yX5_buffer : MethodName := ⟨RX5, "buffer", "(I)I"⟩
abbrev cX5_create : ByteArray := prog_7_method_15_code
def yX5_create : MethodName := ⟨RX5, "create", "(I)I"⟩
abbrev cX5_measured : ByteArray := prog_7_method_16_code
def yX5_measured : MethodName := ⟨RX5, "measured", "(III)V"⟩
abbrev cX5_thread : ByteArray := prog_7_method_17_code
def yX5_thread : MethodName := ⟨RX5, "thread", "(III)I"⟩
abbrev cX5_at : ByteArray := prog_7_method_18_code
def yX5_at : MethodName := ⟨RX5, "at", "(II)I"⟩
abbrev cX5_data : ByteArray := prog_7_method_19_code
def yX5_data : MethodName := ⟨RX5, "data", "(IIII)I"⟩
abbrev cX5_versions : ByteArray := prog_7_method_20_code
def yX5_versions : MethodName := ⟨RX5, "versions", "(I)I"⟩
abbrev cX5_finalise : ByteArray := prog_7_method_21_code
def yX5_finalise : MethodName := ⟨RX5, "finalise", "(I)I"⟩
abbrev cX5_stop : ByteArray := prog_7_method_22_code
def yX5_stop : MethodName := ⟨RX5, "stop", "(I)I"⟩
abbrev cX5_remove : ByteArray := prog_7_method_23_code
def yX5_remove : MethodName := ⟨RX5, "remove", "(I)I"⟩
abbrev cX5_enter : ByteArray := prog_7_method_24_code
def yX5_enter : MethodName := ⟨RX5, "enter", "(IIII)I"⟩
abbrev cX5_resume : ByteArray := prog_7_method_25_code
def yX5_resume : MethodName := ⟨RX5, "resume", "(II)I"⟩
abbrev cX5_run : ByteArray := prog_7_method_26_code
def yX5_run : MethodName := ⟨RX5, "run", "(II)I"⟩
abbrev cX5_reach : ByteArray := prog_7_method_27_code
def yX5_reach : MethodName := ⟨RX5, "reach", "(III)I"⟩
abbrev cX5_step : ByteArray := prog_7_method_28_code
def yX5_step : MethodName := ⟨RX5, "step", "(I)V"⟩
abbrev cX5_told : ByteArray := prog_7_method_29_code
def yX5_told : MethodName := ⟨RX5, "told", "(I)I"⟩
abbrev cX5_inSlot : ByteArray := prog_7_method_30_code
def yX5_inSlot : MethodName := ⟨RX5, "inSlot", "(II)J"⟩
abbrev cX5_setSlot : ByteArray := prog_7_method_31_code
def yX5_setSlot : MethodName := ⟨RX5, "setSlot", "(IIJ)V"⟩
abbrev cX5_evict : ByteArray := prog_7_method_32_code
def yX5_evict : MethodName := ⟨RX5, "evict", "(III)I"⟩
abbrev cX5_reload : ByteArray := prog_7_method_33_code
def yX5_reload : MethodName := ⟨RX5, "reload", "(IIII)I"⟩
abbrev cX5_page : ByteArray := prog_7_method_34_code
def yX5_page : MethodName := ⟨RX5, "page", "(II)I"⟩
abbrev cX5_measure : ByteArray := prog_7_method_35_code
def yX5_measure : MethodName := ⟨RX5, "measure", "(II)I"⟩
abbrev cX5_slot : ByteArray := prog_7_method_36_code
def yX5_slot : MethodName := ⟨RX5, "slot", "(II)J"⟩
abbrev cX5_count : ByteArray := prog_7_method_37_code
def yX5_count : MethodName := ⟨RX5, "count", "(I)I"⟩
def RL : String := "EnclaveMonitorLaw"
abbrev cL_cell : ByteArray := method_2_code
def yL_cell : MethodName := ⟨RL, "cell", "([II)I"⟩
abbrev cL_poke : ByteArray := method_3_code
def yL_poke : MethodName := ⟨RL, "poke", "(LEnclaveMonitor;II)I"⟩
abbrev cL_buffer : ByteArray := method_4_code
def yL_buffer : MethodName := ⟨RL, "buffer", "(LEnclaveMonitor;I[J)I"⟩
abbrev cL_law : ByteArray := code
def yL_law : MethodName := ⟨RL, "law", "([I)Z"⟩
abbrev vwCl : List vw_C := [(RX0, TX0, 4), (RX1, TX1, 8), (RX2, TX2, 5), (RX3, TX3, 6), (RX4, TX4, 11), (RX5, TX5, 30)]
end
section
/-! A PURE EVALUATOR of the bytecode that the system uses: frames of one method at a time, calls by a relation; its soundness over the machine is the next part's. -/
/-- a cell: an object (number of its sort, fields), or an array: ints, longs, references -/
abbrev e_O : Type := (Nat × List Value) ⊕ ((Nat × (Nat → Int32)) ⊕ ((Nat × (Nat → Int64)) ⊕ (Nat × (Nat → Option Nat))))
/-- a heap: cells; and, while cells may be made, the heap's size and the slots that are used -/
abbrev e_H : Type := (Nat → Option e_O) × Option (Nat × Nat)
abbrev e_L : Type := List (Option Value)
/-- an entry of a method's table: instruction, next pc, two numbers, a value, a list of targets -/
abbrev e_E : Type := Instr × Nat × Nat × Nat × Value × List Nat
/-- a method: own sort's name, name, bytes, locals, answer's type; its table -/
abbrev e_M : Type := (String × MethodName × ByteArray × Nat × Option FieldType) × List (Nat × e_E)
abbrev e_C : Type := Nat × e_L × List Value × e_H
abbrev e_R : Type := e_C ⊕ (Option Value ⊕ (Nat × List Value × Nat × e_L × List Value))
def ev_fnd : List (Nat × e_E) → Nat → Option e_E
  | [], _ => none
  | e :: r, pc => cond (Nat.beq e.1 pc) (some e.2) (ev_fnd r pc)
def ev_up (h : e_H) (a : Nat) (o : e_O) : e_H := (fun b => cond (Nat.beq b a) (some o) (h.1 b), h.2)
def ev_kd : Value → Nat
  | .int _ => 0
  | .long _ => 1
  | .null => 2
  | .ref _ => 2
  | _ => 3
def ev_ld (lo : e_L) (i k : Nat) : Option Value := match lo[i]? with
  | some (some w) => cond (Nat.beq (ev_kd w) k) (some w) none
  | _ => none
def ev_cl1 (lo : e_L) (j : Nat) : e_L := match lo[j]? with
  | some (some w) => cond (Nat.beq w.category 2) (lo.set j none) lo
  | _ => lo
def ev_clr (lo : e_L) : Nat → e_L
  | 0 => lo
  | j + 1 => ev_cl1 lo j
def ev_st (lo : e_L) (i : Nat) (w : Value) : e_L := match w with
  | .long x => ((ev_clr lo i).set i (some (.long x))).set (i + 1) none
  | w => (ev_clr lo i).set i (some w)
def ev_go (nx : Nat) (lo : e_L) (sk : List Value) (h : e_H) : Option e_R := some (.inl (nx, lo, sk, h))
def ev_load (k : Nat) (nx i : Nat) (lo : e_L) (sk : List Value) (h : e_H) : Option e_R := match ev_ld lo i k with
  | some w => ev_go nx lo (w :: sk) h
  | none => none
def ev_store (k : Nat) (nx i : Nat) (lo : e_L) (sk : List Value) (h : e_H) : Option e_R := match sk with
  | w :: r => cond (Nat.beq (ev_kd w) k && Nat.ble (i + 1 + (if k = 1 then 1 else 0)) lo.length) (ev_go nx (ev_st lo i w) r h) none
  | _ => none
def ev_inc (nx i : Nat) (v : Value) (lo : e_L) (sk : List Value) (h : e_H) : Option e_R := match ev_ld lo i 0, v with
  | some (.int x), .int c => ev_go nx (ev_st lo i (.int (x + c))) sk h
  | _, _ => none
def ev_bin (f : Int32 → Int32 → Int32) (nx : Nat) (lo : e_L) (sk : List Value) (h : e_H) : Option e_R := match sk with
  | .int y :: .int x :: r => ev_go nx lo (.int (f x y) :: r) h
  | _ => none
def ev_un (f : Int32 → Value) (nx : Nat) (lo : e_L) (sk : List Value) (h : e_H) : Option e_R := match sk with
  | .int x :: r => ev_go nx lo (f x :: r) h
  | _ => none
def ev_binL (f : Int64 → Int64 → Value) (nx : Nat) (lo : e_L) (sk : List Value) (h : e_H) : Option e_R := match sk with
  | .long y :: .long x :: r => ev_go nx lo (f x y :: r) h
  | _ => none
def ev_shL (f : Int64 → Int32 → Int64) (nx : Nat) (lo : e_L) (sk : List Value) (h : e_H) : Option e_R := match sk with
  | .int y :: .long x :: r => ev_go nx lo (.long (f x y) :: r) h
  | _ => none
def ev_div (q : Bool) (nx : Nat) (lo : e_L) (sk : List Value) (h : e_H) : Option e_R := match sk with
  | .int y :: .int x :: r => cond (decide (y = 0)) none (ev_go nx lo (.int (cond q (x / y) (x - x / y * y)) :: r) h)
  | _ => none
def ev_cmp (c : ClassFile.Cond) (x y : Int32) : Bool := match c with
  | .eq => decide (x = y)
  | .ne => decide (x ≠ y)
  | .lt => decide (x < y)
  | .ge => decide (y ≤ x)
  | .gt => decide (y < x)
  | .le => decide (x ≤ y)
def ev_tsw (ts : List Nat) (x : Int32) : Nat := match ts with
  | [] => 0
  | df :: tg => if 0 ≤ x.toInt ∧ x.toInt < (tg.length : Int) then tg.getD x.toInt.toNat df else df
def ev_in (i : Int32) (n : Nat) : Bool := decide (¬ i < 0) && Nat.blt i.toNatClampNeg n
def ev_sum (sk : List Value) : Nat := (sk.map fun v => v.category).sum
/-- a new cell -/
def ev_new (h : e_H) (o : e_O) (n : Nat) : Option (Nat × e_H) := match h.2 with
  | some (z, u) => some (z, (fun b => cond (Nat.beq b z) (some o) (h.1 b), some (z + 1, u + n)))
  | none => none
def ev_obj (h : e_H) (a ci : Nat) : Option (List Value) := match h.1 a with
  | some (.inl (c, fs)) => cond (Nat.beq c ci) (some fs) none
  | _ => none
def ev_ia (h : e_H) (a : Nat) : Option (Nat × (Nat → Int32)) := match h.1 a with
  | some (.inr (.inl x)) => some x
  | _ => none
def ev_la (h : e_H) (a : Nat) : Option (Nat × (Nat → Int64)) := match h.1 a with
  | some (.inr (.inr (.inl x))) => some x
  | _ => none
def ev_ra (h : e_H) (a : Nat) : Option (Nat × (Nat → Option Nat)) := match h.1 a with
  | some (.inr (.inr (.inr x))) => some x
  | _ => none
def ev_len (h : e_H) (a : Nat) : Option Nat := match h.1 a with
  | some (.inr (.inl x)) => some x.1
  | some (.inr (.inr (.inl x))) => some x.1
  | some (.inr (.inr (.inr x))) => some x.1
  | _ => none
/-- the kinds of fields, and what they hold at first -/
def ev_z (n : Nat) : Value := if n = 0 then .int 0 else if n = 1 then .long 0 else .null
def ev_get (x1 x2 nx : Nat) (lo : e_L) (sk : List Value) (h : e_H) : Option e_R := match sk with
  | .ref a :: r => match ev_obj h a x1 with
    | some fs => match fs[x2]? with
      | some w => ev_go nx lo (w :: r) h
      | none => none
    | none => none
  | _ => none
def ev_put (bs : Nat) (v : Value) (x1 x2 nx : Nat) (lo : e_L) (sk : List Value) (h : e_H) : Option e_R := match sk with
  | w :: .ref a :: r => match ev_obj h a x1 with
    | some fs => cond (Nat.ble bs a && (Nat.blt x2 fs.length && Nat.beq (ev_kd w) (ev_kd v))) (ev_go nx lo r (ev_up h a (.inl (x1, fs.set x2 w)))) none
    | none => none
  | _ => none
def ev_iald (nx : Nat) (lo : e_L) (sk : List Value) (h : e_H) : Option e_R := match sk with
  | .int i :: .ref a :: r => match ev_ia h a with
    | some x => cond (ev_in i x.1) (ev_go nx lo (.int (x.2 i.toNatClampNeg) :: r) h) none
    | none => none
  | _ => none
def ev_iast (bs nx : Nat) (lo : e_L) (sk : List Value) (h : e_H) : Option e_R := match sk with
  | .int w :: .int i :: .ref a :: r => match ev_ia h a with
    | some x => cond (Nat.ble bs a && ev_in i x.1) (ev_go nx lo r (ev_up h a (.inr (.inl (x.1, upd x.2 i.toNatClampNeg w))))) none
    | none => none
  | _ => none
def ev_lald (nx : Nat) (lo : e_L) (sk : List Value) (h : e_H) : Option e_R := match sk with
  | .int i :: .ref a :: r => match ev_la h a with
    | some x => cond (ev_in i x.1) (ev_go nx lo (.long (x.2 i.toNatClampNeg) :: r) h) none
    | none => none
  | _ => none
def ev_last (bs nx : Nat) (lo : e_L) (sk : List Value) (h : e_H) : Option e_R := match sk with
  | .long w :: .int i :: .ref a :: r => match ev_la h a with
    | some x => cond (Nat.ble bs a && ev_in i x.1) (ev_go nx lo r (ev_up h a (.inr (.inr (.inl (x.1, vp_updL x.2 i.toNatClampNeg w)))))) none
    | none => none
  | _ => none
def ev_aald (nx : Nat) (lo : e_L) (sk : List Value) (h : e_H) : Option e_R := match sk with
  | .int i :: .ref a :: r => match ev_ra h a with
    | some x => cond (ev_in i x.1) (ev_go nx lo (va_rf (x.2 i.toNatClampNeg) :: r) h) none
    | none => none
  | _ => none
/-- a reference into an array: null, or an object of sort x1 -/
def ev_aast (bs x1 nx : Nat) (lo : e_L) (sk : List Value) (h : e_H) : Option e_R := match sk with
  | .null :: .int i :: .ref a :: r => match ev_ra h a with
    | some x => cond (Nat.ble bs a && ev_in i x.1) (ev_go nx lo r (ev_up h a (.inr (.inr (.inr (x.1, va_up x.2 i.toNatClampNeg none)))))) none
    | none => none
  | .ref b :: .int i :: .ref a :: r => match ev_ra h a, ev_obj h b x1 with
    | some x, some _ => cond (Nat.ble bs a && ev_in i x.1) (ev_go nx lo r (ev_up h a (.inr (.inr (.inr (x.1, va_up x.2 i.toNatClampNeg (some b))))))) none
    | _, _ => none
  | _ => none
def ev_alen (nx : Nat) (lo : e_L) (sk : List Value) (h : e_H) : Option e_R := match sk with
  | .ref a :: r => match ev_len h a with
    | some n => ev_go nx lo (.int (Int32.ofNat n) :: r) h
    | none => none
  | _ => none
def ev_newa (o : Nat → e_O) (nx : Nat) (lo : e_L) (sk : List Value) (h : e_H) : Option e_R := match sk with
  | .int n :: r => cond (decide (¬ n < 0) && Nat.ble n.toNatClampNeg 5000) (match ev_new h (o n.toNatClampNeg) n.toNatClampNeg with
    | some (z, h') => ev_go nx lo (.ref z :: r) h'
    | none => none) none
  | _ => none
def ev_cpy (bs nx : Nat) (lo : e_L) (sk : List Value) (h : e_H) : Option e_R := match sk with
  | .int n :: .int dp :: .ref a :: .int sp :: .ref a0 :: r => match ev_ia h a0, ev_ia h a with
    | some x, some y => cond (Nat.ble bs a && (Nat.ble (ev_sum r) 8 && (decide (¬ sp < 0) && (decide (¬ dp < 0) && (decide (¬ n < 0) && (Nat.ble (sp.toNatClampNeg + n.toNatClampNeg) x.1 && Nat.ble (dp.toNatClampNeg + n.toNatClampNeg) y.1))))))
        (ev_go nx lo r (ev_up h a (.inr (.inl (y.1, va_cpy x.2 y.2 sp.toNatClampNeg dp.toNatClampNeg n.toNatClampNeg))))) none
    | _, _ => none
  | _ => none
/-- a call of the method x1 with x2 arguments (the receiver not counted): static, of a constructor, of an object of sort ts -/
def ev_callS (x1 x2 nx : Nat) (lo : e_L) (sk : List Value) : Option e_R :=
  cond (Nat.ble x2 sk.length && Nat.ble (ev_sum (sk.drop x2)) 8) (some (.inr (.inr (x1, (sk.take x2).reverse, nx, lo, sk.drop x2)))) none
def ev_callI (x1 x2 nx : Nat) (lo : e_L) (sk : List Value) : Option e_R := match sk.drop x2 with
  | .ref b :: r => cond (Nat.ble x2 sk.length && Nat.ble (ev_sum r) 8) (some (.inr (.inr (x1, .ref b :: (sk.take x2).reverse, nx, lo, r)))) none
  | _ => none
def ev_callV (x1 x2 nx : Nat) (ts : List Nat) (lo : e_L) (sk : List Value) (h : e_H) : Option e_R := match sk.drop x2, ts with
  | .ref b :: r, [ci] => match ev_obj h b ci with
    | some _ => cond (Nat.ble x2 sk.length && Nat.ble (ev_sum r) 8) (some (.inr (.inr (x1, .ref b :: (sk.take x2).reverse, nx, lo, r)))) none
    | none => none
  | _, _ => none
def ev_ret (k : Nat) (rt : Option FieldType) (sk : List Value) : Option e_R := match sk, rt with
  | [w], some ty => cond (Nat.beq (ev_kd w) k && decide (narrow ty w = w)) (some (.inr (.inl (some w)))) none
  | _, _ => none
def ev_ins (bs : Nat) (sa : Nat → Nat) (rt : Option FieldType) (nx x1 x2 : Nat) (v : Value) (ts : List Nat) (lo : e_L) (sk : List Value) (h : e_H) (i : Instr) : Option e_R := match i with
  | .iconst _ => ev_go nx lo (v :: sk) h
  | .bipush _ => ev_go nx lo (v :: sk) h
  | .sipush _ => ev_go nx lo (v :: sk) h
  | .lconst _ => ev_go nx lo (v :: sk) h
  | .ldc _ => ev_go nx lo (v :: sk) h
  | .ldc2_w _ => ev_go nx lo (v :: sk) h
  | .aconst_null => ev_go nx lo (.null :: sk) h
  | .iload_n _ => ev_load 0 nx x1 lo sk h
  | .iload _ => ev_load 0 nx x1 lo sk h
  | .lload_n _ => ev_load 1 nx x1 lo sk h
  | .lload _ => ev_load 1 nx x1 lo sk h
  | .aload_n _ => ev_load 2 nx x1 lo sk h
  | .aload _ => ev_load 2 nx x1 lo sk h
  | .istore_n _ => ev_store 0 nx x1 lo sk h
  | .istore _ => ev_store 0 nx x1 lo sk h
  | .lstore_n _ => ev_store 1 nx x1 lo sk h
  | .lstore _ => ev_store 1 nx x1 lo sk h
  | .astore_n _ => ev_store 2 nx x1 lo sk h
  | .astore _ => ev_store 2 nx x1 lo sk h
  | .iinc _ _ => ev_inc nx x1 v lo sk h
  | .iadd => ev_bin (fun x y => x + y) nx lo sk h
  | .isub => ev_bin (fun x y => x - y) nx lo sk h
  | .imul => ev_bin (fun x y => x * y) nx lo sk h
  | .iand => ev_bin (fun x y => x &&& y) nx lo sk h
  | .ior => ev_bin (fun x y => x ||| y) nx lo sk h
  | .ixor => ev_bin (fun x y => x ^^^ y) nx lo sk h
  | .ishl => ev_bin (fun x y => x <<< (y &&& 31)) nx lo sk h
  | .ishr => ev_bin (fun x y => x >>> (y &&& 31)) nx lo sk h
  | .iushr => ev_bin (fun x y => (x.toUInt32 >>> (y.toUInt32 &&& Int32.toUInt32 31)).toInt32) nx lo sk h
  | .idiv => ev_div true nx lo sk h
  | .irem => ev_div false nx lo sk h
  | .ineg => ev_un (fun x => .int (-x)) nx lo sk h
  | .i2l => ev_un (fun x => .long x.toInt64) nx lo sk h
  | .i2s => ev_un (fun x => .int x.toInt16.toInt32) nx lo sk h
  | .l2i => match sk with
    | .long x :: r => ev_go nx lo (.int x.toInt32 :: r) h
    | _ => none
  | .ladd => ev_binL (fun x y => .long (x + y)) nx lo sk h
  | .land => ev_binL (fun x y => .long (x &&& y)) nx lo sk h
  | .lor => ev_binL (fun x y => .long (x ||| y)) nx lo sk h
  | .lcmp => ev_binL (fun x y => .int (lg_cmp x y)) nx lo sk h
  | .lshl => ev_shL (fun x y => x <<< (y.toInt64 &&& 63)) nx lo sk h
  | .lshr => ev_shL (fun x y => x >>> (y.toInt64 &&& 63)) nx lo sk h
  | .lushr => ev_shL (fun x y => (x.toUInt64 >>> (y.toInt64.toUInt64 &&& Int64.toUInt64 63)).toInt64) nx lo sk h
  | .dup => match sk with
    | w :: r => cond (Nat.beq w.category 1) (ev_go nx lo (w :: w :: r) h) none
    | _ => none
  | .dup2 => match sk with
    | w :: u :: r => cond (Nat.beq w.category 1 && Nat.beq u.category 1) (ev_go nx lo (w :: u :: w :: u :: r) h) none
    | _ => none
  | .if_icmp c _ => match sk with
    | .int y :: .int x :: r => ev_go (cond (ev_cmp c x y) x1 nx) lo r h
    | _ => none
  | .ifCond c _ => match sk with
    | .int x :: r => ev_go (cond (ev_cmp c x 0) x1 nx) lo r h
    | _ => none
  | .ifnull _ => match sk with
    | .null :: r => ev_go x1 lo r h
    | .ref _ :: r => ev_go nx lo r h
    | _ => none
  | .ifnonnull _ => match sk with
    | .null :: r => ev_go nx lo r h
    | .ref _ :: r => ev_go x1 lo r h
    | _ => none
  | .goto _ => ev_go x1 lo sk h
  | .tableswitch _ _ _ _ => match sk with
    | .int x :: r => ev_go (ev_tsw ts x) lo r h
    | _ => none
  | .getfield _ => ev_get x1 x2 nx lo sk h
  | .putfield _ => ev_put bs v x1 x2 nx lo sk h
  | .getstatic _ => ev_go nx lo (.ref (sa x1) :: sk) h
  | .iaload => ev_iald nx lo sk h
  | .iastore => ev_iast bs nx lo sk h
  | .laload => ev_lald nx lo sk h
  | .lastore => ev_last bs nx lo sk h
  | .aaload => ev_aald nx lo sk h
  | .aastore => ev_aast bs 1 nx lo sk h
  | .arraylength => ev_alen nx lo sk h
  | .newarray .int => ev_newa (fun n => .inr (.inl (n, fun _ => 0))) nx lo sk h
  | .newarray .long => ev_newa (fun n => .inr (.inr (.inl (n, fun _ => 0)))) nx lo sk h
  | .anewarray _ => ev_newa (fun n => .inr (.inr (.inr (n, fun _ => none)))) nx lo sk h
  | .new _ => match ev_new h (.inl (x1, ts.map ev_z)) x2 with
    | some (z, h') => ev_go nx lo (.ref z :: sk) h'
    | none => none
  | .invokestatic _ => if x1 = 1001 then ev_cpy bs nx lo sk h else ev_callS x1 x2 nx lo sk
  | .invokespecial _ => if x1 = 1000 then (match sk with
    | .ref _ :: r => cond (Nat.ble (ev_sum r) 8) (ev_go nx lo r h) none
    | _ => none) else ev_callI x1 x2 nx lo sk
  | .invokevirtual _ => ev_callV x1 x2 nx ts lo sk h
  | .ireturn => ev_ret 0 rt sk
  | .lreturn => ev_ret 1 rt sk
  | .areturn => ev_ret 2 rt sk
  | .return_ => match sk, rt with
    | [], none => some (.inr (.inl none))
    | _, _ => none
  | _ => none
def ev_stp (bs : Nat) (sa : Nat → Nat) (T : e_M) (cf : e_C) : Option e_R := match ev_fnd T.2 cf.1 with
  | some (i, nx, x1, x2, v, ts) => ev_ins bs sa T.1.2.2.2.2 nx x1 x2 v ts cf.2.1 cf.2.2.1 cf.2.2.2 i
  | none => none
/-- n steps at most, to an end that E names: a place in the frame, or the method's answer; calls go by K -/
def ev_rch (bs : Nat) (sa : Nat → Nat) (K : Nat → List Value → e_H → Option Value → e_H → Prop) (T : e_M) (E : e_C ⊕ (Option Value × e_H) → Prop) : Nat → e_C → Prop
  | 0, cf => E (.inl cf)
  | n + 1, cf => E (.inl cf) ∨ match ev_stp bs sa T cf with
    | some (.inl cf') => ev_rch bs sa K T E n cf'
    | some (.inr (.inl v)) => E (.inr (v, cf.2.2.2))
    | some (.inr (.inr (y, as, nx, lo, r))) => ∃ v h', K y as cf.2.2.2 v h' ∧ ev_rch bs sa K T E n (nx, lo, v.toList ++ r, h')
    | none => False
def ev_args (vs : List Value) : e_L := vs.flatMap fun v => if v.category = 2 then [some v, none] else [some v]
/-- a method's first locals -/
def ev_loc (n : Nat) (vs : List Value) : e_L := ev_args vs ++ List.replicate (n - (ev_args vs).length) none
/-- the method y, with these arguments in this heap, ends so; d frames deep at most; tb: the methods -/
def ev_run (tb : Nat → Option e_M) (bs : Nat) (sa : Nat → Nat) : Nat → Nat → List Value → e_H → Option Value → e_H → Prop
  | 0 => fun _ _ _ _ _ => False
  | d + 1 => fun y as h v h' => ∃ T n, tb y = some T ∧ (ev_args as).length ≤ T.1.2.2.2.1 ∧ ev_rch bs sa (ev_run tb bs sa d) T (fun x => x = .inr (v, h')) n (0, ev_loc T.1.2.2.2.1 as, [], h)
/-- to an end that E names -/
def ev_E (tb : Nat → Option e_M) (bs : Nat) (sa : Nat → Nat) (d : Nat) (T : e_M) (E : e_C ⊕ (Option Value × e_H) → Prop) (cf : e_C) : Prop := ∃ n, ev_rch bs sa (ev_run tb bs sa d) T E n cf
end
section
/-! The evaluator's heaps and locals beside the machine's. -/
def ev_GW : List Cond := lw_tbl.filter goodWord
def ev_sts : List (String × String) := [("EnclaveMonitor$Hash", "FIRST_STATE"), ("EnclaveMonitor$Hash", "ROUND_WORDS"), ("EnclaveMonitor$Sealer", "CONSTANTS"), ("EnclaveMonitorModel", "BEGIN"), ("EnclaveMonitorModel", "ROUND")]
def ev_nq : List (String × Nat × MethodName × String) := [("EnclaveMonitor", 18, yX0_init, "EnclaveMonitor"), ("EnclaveMonitor", 25, yX2_init, "EnclaveMonitor"), ("EnclaveMonitor", 36, yX1_init, "EnclaveMonitor"), ("EnclaveMonitor$Sealer", 11, yX0_init, "EnclaveMonitor"), ("EnclaveMonitor$Runner", 37, yX4_isWithin, "EnclaveMonitor"), ("EnclaveMonitor$Page", 37, yX4_isWithin, "EnclaveMonitor")]
/-- what holds of the tables and of the static arrays at every state of the run -/
def ev_K (D : va_G) (bs : Nat) (sa : Nat → Nat) (U : State) : Prop := va_K D vwCl [] U ∧ (∀ (j : Nat) (q : String × String), ev_sts[j]? = some q → va_Z q.1 q.2 "[I" (.ref (sa j)) (fun z => bs ≤ z) U U.heap) ∧ (∀ q ∈ ev_nq, va_Nw (.methodLinkNest q.1 q.2.1 q.2.2.1 q.2.2.2) U) ∧ va_AO "EnclaveMonitor$Page" U
theorem ev_K.blind {D : va_G} {bs : Nat} {sa : Nat → Nat} {U V : State} (hv : U.vm = V.vm) (hh : U.heap = V.heap) (h : ev_K D bs sa U) : ev_K D bs sa V := by
  have ha : U.vm.Alike V.vm := by rw [hv]; exact Vm.Alike.refl V.vm
  exact ⟨va_K.moved ha h.1, fun j q hq => by rw [← hh]; exact va_Z.moved ha (h.2.1 j q hq), fun q hq => va_Nw.same rfl hv (h.2.2.1 q hq), va_AO.moved ha h.2.2.2⟩
theorem ev_K.warm {D : va_G} {bs : Nat} {sa : Nat → Nat} {s U : State} {H : Heap} {locs : List Loc} (hW : s.WarmedH U.vm) (hS : va_S (fun q => bs ≤ q) s.heap H locs) (hU : U.heap = H) (h : ev_K D bs sa s) : ev_K D bs sa U := by
  refine ⟨va_K.moved hW.alike h.1, fun j q hq => ?_, fun q hq => va_Nw.warmM hW (h.2.2.1 q hq), va_AO.moved hW.alike h.2.2.2⟩
  have h1 := va_Z.moved hW.alike (h.2.1 j q hq)
  rw [hU]
  exact va_Z.kept h1 (fun a ha hn => hS.2.1 a ha hn)
def ev_AR (U : State) (a : Nat) (ty : FieldType) (n : Nat) (g : Nat → Value) (H : Heap) : Prop := ∃ cell : Cell, H[a]? = some cell ∧ U.isArrayOf cell ty ∧ cell.vm ≠ .unknown ∧ cell.slots.size = n ∧ ∀ j, j < n → cell.slots[j]? = some (g j)
def ev_RR (D : va_G) (U : State) (a : Nat) (H : Heap) : Prop := ∃ (cell : Cell) (k : Class), H[a]? = some cell ∧ U.vm.classes[cell.cls]? = some k ∧ k.kind = .array (D.1 1) (.object "EnclaveMonitor$Page")
def ev_CR (D : va_G) (U : State) (a : Nat) (o : e_O) (H : Heap) : Prop := match o with
  | .inl x => ∃ r : vw_C, vwCl[x.1]? = some r ∧ x.2.length = r.2.2 ∧ t_OB a (D.1 x.1) r.2.2 (D.2 x.1) H (vp_V x.2)
  | .inr (.inl x) => ev_AR U a .int x.1 (fun j => .int (x.2 j)) H
  | .inr (.inr (.inl x)) => ev_AR U a .long x.1 (fun j => .long (x.2 j)) H
  | .inr (.inr (.inr x)) => ev_AR U a (.object "EnclaveMonitor$Page") x.1 (fun j => va_rf (x.2 j)) H ∧ ev_RR D U a H
def ev_P (D : va_G) (U : State) (h : e_H) (H : Heap) : Prop := (∀ a o, h.1 a = some o → ev_CR D U a o H) ∧ ∀ z u, h.2 = some (z, u) → H.size = z
theorem ev_AR.moved {u U : State} {a n : Nat} {ty : FieldType} {g : Nat → Value} {H : Heap} (hvm : u.vm.Alike U.vm) (h : ev_AR u a ty n g H) : ev_AR U a ty n g H := by
  obtain ⟨cell, h1, h2, h3⟩ := h
  exact ⟨cell, h1, State.isArrayOf_alike hvm h2, h3⟩
theorem ev_RR.moved {D : va_G} {u U : State} {a : Nat} {H : Heap} (hvm : u.vm.Alike U.vm) (h : ev_RR D u a H) : ev_RR D U a H := by
  obtain ⟨cell, k, h1, h2, h3⟩ := h
  obtain ⟨k', hk', he⟩ := hvm.2.2 _ _ h2
  exact ⟨cell, k', h1, hk', by rw [he]; exact h3⟩
theorem ev_CR.moved {D : va_G} {u U : State} {a : Nat} {o : e_O} {H : Heap} (hvm : u.vm.Alike U.vm) (h : ev_CR D u a o H) : ev_CR D U a o H := by
  match o, h with
  | .inl x, h => exact h
  | .inr (.inl x), h => exact ev_AR.moved hvm h
  | .inr (.inr (.inl x)), h => exact ev_AR.moved hvm h
  | .inr (.inr (.inr x)), h => exact ⟨ev_AR.moved hvm h.1, ev_RR.moved hvm h.2⟩
theorem ev_CR.kept {D : va_G} {U : State} {a : Nat} {o : e_O} {H H1 : Heap} (hq : H1[a]? = H[a]?) (h : ev_CR D U a o H) : ev_CR D U a o H1 := by
  match o, h with
  | .inl x, h => obtain ⟨r, h1, h2, h3⟩ := h; exact ⟨r, h1, h2, h3.kept hq⟩
  | .inr (.inl x), h => obtain ⟨c, h1, h2⟩ := h; exact ⟨c, by rw [hq]; exact h1, h2⟩
  | .inr (.inr (.inl x)), h => obtain ⟨c, h1, h2⟩ := h; exact ⟨c, by rw [hq]; exact h1, h2⟩
  | .inr (.inr (.inr x)), h => obtain ⟨⟨c, h1, h2⟩, ⟨c2, k, g1, g2⟩⟩ := h; exact ⟨⟨c, by rw [hq]; exact h1, h2⟩, ⟨c2, k, by rw [hq]; exact g1, g2⟩⟩
theorem ev_CR.lt {D : va_G} {U : State} {a : Nat} {o : e_O} {H : Heap} (h : ev_CR D U a o H) : a < H.size := by
  have key : ∀ {c : Cell}, H[a]? = some c → a < H.size := fun h => (Array.getElem?_eq_some_iff.mp h).1
  match o, h with
  | .inl x, h => obtain ⟨r, h1, h2, c, h3, h4⟩ := h; exact key h3
  | .inr (.inl x), h => obtain ⟨c, h1, h2⟩ := h; exact key h1
  | .inr (.inr (.inl x)), h => obtain ⟨c, h1, h2⟩ := h; exact key h1
  | .inr (.inr (.inr x)), h => obtain ⟨⟨c, h1, h2⟩, h3⟩ := h; exact key h1
theorem ev_P.moved {D : va_G} {u U : State} {h : e_H} {H : Heap} (hvm : u.vm.Alike U.vm) (hP : ev_P D u h H) : ev_P D U h H := ⟨fun a o ha => ev_CR.moved hvm (hP.1 a o ha), hP.2⟩
theorem ev_up_1 (h : e_H) (a : Nat) (o : e_O) (b : Nat) : (ev_up h a o).1 b = if b = a then some o else h.1 b := by
  by_cases hb : b = a
  · subst hb; simp [ev_up]
  · rw [if_neg hb]
    have : Nat.beq b a = false := by
      cases hq : Nat.beq b a with
      | false => rfl
      | true => exact absurd (Nat.eq_of_beq_eq_true hq) hb
    simp [ev_up, this]
theorem ev_P.put {D : va_G} {U : State} {h : e_H} {H H1 : Heap} {a : Nat} {o : e_O} (hP : ev_P D U h H) (hz : H1.size = H.size) (hq : ∀ q, q ≠ a → H1[q]? = H[q]?) (hc : ev_CR D U a o H1) : ev_P D U (ev_up h a o) H1 := by
  refine ⟨fun b x hb => ?_, fun z u hu => hz.trans (hP.2 z u hu)⟩
  rw [ev_up_1] at hb
  by_cases e : b = a
  · rw [if_pos e] at hb; cases hb; rw [e]; exact hc
  · rw [if_neg e] at hb; exact ev_CR.kept (hq b e) (hP.1 b x hb)
theorem ev_P.new {D : va_G} {U : State} {h h' : e_H} {H H1 : Heap} {o : e_O} {n z : Nat} (hP : ev_P D U h H) (hn : ev_new h o n = some (z, h')) (hz : H1.size = H.size + 1) (hq : ∀ q, q < H.size → H1[q]? = H[q]?) (hc : ev_CR D U H.size o H1) : z = H.size ∧ ev_P D U h' H1 ∧ ∃ w u, h.2 = some (w, u) ∧ h'.2 = some (w + 1, u + n) := by
  unfold ev_new at hn
  split at hn
  · rename_i w u hw
    have hs := hP.2 w u hw
    simp only [Option.some.injEq, Prod.mk.injEq] at hn
    obtain ⟨rfl, rfl⟩ := hn
    refine ⟨hs.symm, ⟨fun b x hb => ?_, fun z9 u9 hu => ?_⟩, w, u, hw, rfl⟩
    · dsimp only at hb
      by_cases e : b = w
      · subst e
        have : Nat.beq b b = true := by simp
        rw [this] at hb; cases hb; rw [← hs]; exact hc
      · have : Nat.beq b w = false := by
          cases hq9 : Nat.beq b w with
          | false => rfl
          | true => exact absurd (Nat.eq_of_beq_eq_true hq9) e
        rw [this] at hb
        have hb : h.1 b = some x := hb
        exact ev_CR.kept (hq b (hP.1 b x hb).lt) (hP.1 b x hb)
    · have e2 : some (w + 1, u + n) = some (z9, u9) := hu
      simp only [Option.some.injEq, Prod.mk.injEq] at e2
      rw [hz, hs]; exact e2.1
  · cases hn
theorem ev_AR.store {U : State} {a n : Nat} {ty : FieldType} {g g' : Nat → Value} {H H1 : Heap} {cell : Cell} {j : Nat} {w : Value} (h0 : H[a]? = some cell) (h1 : U.isArrayOf cell ty) (h2 : cell.vm ≠ .unknown) (h3 : cell.slots.size = n) (h4 : ∀ j, j < n → cell.slots[j]? = some (g j)) (hj : j < n) (hH : H1[a]? = some (cell.setSlot j w)) (hg : ∀ k, k < n → g' k = if k = j then w else g k) : ev_AR U a ty n g' H1 := by
  refine ⟨_, hH, h1, h2, by simp [Cell.setSlot, h3], fun k hk => ?_⟩
  rw [hg k hk]
  by_cases e : k = j
  · subst e; rw [if_pos rfl]; simp [Cell.setSlot, h3, hk]
  · rw [if_neg e, ← h4 k hk]; simp [Cell.setSlot, Array.getElem?_setIfInBounds_ne (fun q => e q.symm)]
/-- the locals -/
def ev_LR (ls : Array Slot) (nL : Nat) (lo : e_L) : Prop := lo.length = nL ∧ ls.size = nL ∧ lv_wf ls ∧ ∀ (i : Nat) (v : Value), lo[i]? = some (some v) → ls[i]? = some (.val v)
def ev_ll (lo : e_L) : List (Nat × Value) := (List.range lo.length).filterMap fun i => match lo[i]? with
  | some (some v) => some (i, v)
  | _ => none
theorem ev_ll_mem {lo : e_L} {i : Nat} {v : Value} : (i, v) ∈ ev_ll lo ↔ lo[i]? = some (some v) := by
  unfold ev_ll
  rw [List.mem_filterMap]
  constructor
  · rintro ⟨j, -, hj⟩
    split at hj
    · rename_i w hw
      simp only [Option.some.injEq, Prod.mk.injEq] at hj
      obtain ⟨rfl, rfl⟩ := hj
      exact hw
    · cases hj
  · intro h
    refine ⟨i, List.mem_range.mpr (List.getElem?_eq_some_iff.mp h).1, ?_⟩
    rw [h]
theorem ev_LR.has {ls : Array Slot} {nL : Nat} {lo : e_L} (h : ev_LR ls nL lo) : lv_has ls nL (ev_ll lo) := ⟨h.2.1, h.2.2.1, fun q hq => h.2.2.2 q.1 q.2 (ev_ll_mem.mp hq)⟩
theorem ev_clr_len (lo : e_L) (i : Nat) : (ev_clr lo i).length = lo.length := by
  cases i with
  | zero => rfl
  | succ j =>
    show (ev_cl1 lo j).length = _
    unfold ev_cl1
    split
    · rename_i w hw
      cases Nat.beq w.category 2 <;> simp
    · rfl
theorem ev_clr_get {lo : e_L} {i j : Nat} {v : Value} (h : (ev_clr lo i)[j]? = some (some v)) : lo[j]? = some (some v) ∧ ¬ (j + 1 = i ∧ v.category = 2) := by
  cases i with
  | zero => exact ⟨h, fun q => by omega⟩
  | succ k =>
    have h : (ev_cl1 lo k)[j]? = some (some v) := h
    unfold ev_cl1 at h
    split at h
    · rename_i w hw
      cases hb : Nat.beq w.category 2 with
      | true =>
        rw [hb] at h
        have h : (lo.set k none)[j]? = some (some v) := h
        by_cases e : j = k
        · subst e
          rw [List.getElem?_set_self (List.getElem?_eq_some_iff.mp hw).1] at h
          cases h
        · rw [List.getElem?_set_ne (fun q => e q.symm)] at h
          exact ⟨h, fun q => e (by omega)⟩
      | false =>
        rw [hb] at h
        have g : lo[j]? = some (some v) := h
        refine ⟨g, fun q => ?_⟩
        have e : k = j := by omega
        rw [e] at hw
        rw [hw] at g
        cases g
        rw [q.2] at hb
        cases hb
    · rename_i hw
      have g : lo[j]? = some (some v) := h
      refine ⟨g, fun q => ?_⟩
      have e : k = j := by omega
      exact hw v (by rw [e]; exact g)
theorem ev_LR.st1 {ls' : Array Slot} {nL i : Nat} {lo : e_L} {w : Value} (hlen : lo.length = nL) (hi : i < nL) (hc : w.category = 1) (h : lv_has ls' nL ((i, w) :: (ev_ll lo).filter (fun q => !(q.1 == i) && !(q.1 + 1 == i && q.2.category == 2)))) : ev_LR ls' nL (ev_st lo i w) := by
  have e : ev_st lo i w = (ev_clr lo i).set i (some w) := by
    unfold ev_st
    split
    · simp [Value.category] at hc
    · rfl
  rw [e]
  refine ⟨by rw [List.length_set, ev_clr_len]; exact hlen, h.1, h.2.1, fun j v hj => ?_⟩
  by_cases e : j = i
  · subst e
    rw [List.getElem?_set_self (by rw [ev_clr_len]; omega)] at hj
    cases hj
    exact h.2.2 (j, w) List.mem_cons_self
  · rw [List.getElem?_set_ne (fun q => e q.symm)] at hj
    obtain ⟨h1, h2⟩ := ev_clr_get hj
    refine h.2.2 (j, v) (List.mem_cons_of_mem _ (List.mem_filter.mpr ⟨ev_ll_mem.mpr h1, ?_⟩))
    simp only [Bool.and_eq_true, Bool.not_eq_true', beq_eq_false_iff_ne, ne_eq, Bool.and_eq_false_iff]
    refine ⟨e, ?_⟩
    by_cases q : j + 1 = i
    · exact Or.inr (fun z => h2 ⟨q, z⟩)
    · exact Or.inl q
theorem ev_LR.st2 {ls' : Array Slot} {nL i : Nat} {lo : e_L} {x : Int64} (hlen : lo.length = nL) (hi : i + 1 < nL) (h : lv_has ls' nL ((i, Value.long x) :: (ev_ll lo).filter (fun q => !(q.1 == i) && (!(q.1 == i + 1) && !(q.1 + 1 == i && q.2.category == 2))))) : ev_LR ls' nL (ev_st lo i (.long x)) := by
  have e : ev_st lo i (.long x) = ((ev_clr lo i).set i (some (.long x))).set (i + 1) none := rfl
  rw [e]
  refine ⟨by rw [List.length_set, List.length_set, ev_clr_len]; exact hlen, h.1, h.2.1, fun j v hj => ?_⟩
  by_cases e1 : j = i + 1
  · subst e1
    rw [List.getElem?_set_self (by rw [List.length_set, ev_clr_len]; omega)] at hj
    cases hj
  · rw [List.getElem?_set_ne (fun q => e1 q.symm)] at hj
    by_cases e : j = i
    · subst e
      rw [List.getElem?_set_self (by rw [ev_clr_len]; omega)] at hj
      cases hj
      exact h.2.2 (j, .long x) List.mem_cons_self
    · rw [List.getElem?_set_ne (fun q => e q.symm)] at hj
      obtain ⟨h1, h2⟩ := ev_clr_get hj
      refine h.2.2 (j, v) (List.mem_cons_of_mem _ (List.mem_filter.mpr ⟨ev_ll_mem.mpr h1, ?_⟩))
      simp only [Bool.and_eq_true, Bool.not_eq_true', beq_eq_false_iff_ne, ne_eq, Bool.and_eq_false_iff]
      refine ⟨e, e1, ?_⟩
      by_cases q : j + 1 = i
      · exact Or.inr (fun z => h2 ⟨q, z⟩)
      · exact Or.inl q
theorem ev_LR.entry (vs : List Value) {n : Nat} (h : (ev_args vs).length ≤ n) : ev_LR ((lg_sl vs ++ List.replicate (n - (lg_sl vs).length) Slot.unset).toArray) n (ev_loc n vs) := by
  have key : ∀ vs : List Value, (lg_sl vs).length = (ev_args vs).length ∧ ∀ (i : Nat) (v : Value), (ev_args vs)[i]? = some (some v) → (lg_sl vs)[i]? = some (.val v) := by
    intro vs
    induction vs with
    | nil => exact ⟨rfl, fun i v hi => by simp [ev_args] at hi⟩
    | cons w r ih =>
      have e1 : lg_sl (w :: r) = (if w.category = 2 then [Slot.val w, .second] else [.val w]) ++ lg_sl r := rfl
      have e2 : ev_args (w :: r) = (if w.category = 2 then [some w, none] else [some w]) ++ ev_args r := rfl
      rw [e1, e2]
      by_cases hc : w.category = 2
      · rw [if_pos hc, if_pos hc]
        refine ⟨by simp [ih.1], fun i v hi => ?_⟩
        match i, hi with
        | 0, hi => simp at hi; simp [hi]
        | 1, hi => simp at hi
        | i + 2, hi => simp at hi ⊢; exact ih.2 i v hi
      · rw [if_neg hc, if_neg hc]
        refine ⟨by simp [ih.1], fun i v hi => ?_⟩
        match i, hi with
        | 0, hi => simp at hi; simp [hi]
        | i + 1, hi => simp at hi ⊢; exact ih.2 i v hi
  obtain ⟨k1, k2⟩ := key vs
  have hv := lv_entry vs (n := n) (by rw [k1]; exact h)
  refine ⟨by simp [ev_loc]; omega, hv.1, hv.2.1, fun i v hi => ?_⟩
  unfold ev_loc at hi
  have hi2 : (ev_args vs)[i]? = some (some v) := by
    by_cases hl : i < (ev_args vs).length
    · rw [List.getElem?_append_left hl] at hi; exact hi
    · rw [List.getElem?_append_right (by omega), List.getElem?_replicate] at hi
      split at hi <;> simp at hi
  have h3 := k2 i v hi2
  simp only [List.getElem?_toArray]
  rw [List.getElem?_append_left (List.getElem?_eq_some_iff.mp h3).1]
  exact h3
def ev_cn (h : e_H) : Nat := match h.2 with
  | some (z, _) => z
  | none => 0
def ev_sn (h : e_H) : Nat := match h.2 with
  | some (_, u) => u
  | none => 0
end
section
theorem i_vc : Claimed_1_1 ∧ Claimed_1_2 := sorry
end
